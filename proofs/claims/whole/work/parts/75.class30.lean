/-! ===== the class: rights, all of them ===== -/
section C30
variable {l : Launch} {w : WD} {d : Nat} {h h0 : AH} {Q : Option AV → AH → Prop} {tx : List Int32} {i j a : Nat} {k p : Int32} {R : NR}
theorem clo_lp (hT : TXc tx h0) (ha : a = 54 ∨ a = 56) : ∀ (n : Nat) (x i : Nat) (h : AH) (R : NR) (l3 l4 l5 : Option AV), RB a h0 h → NRc R a h → tx.length + 1 - i ≤ n → 2 * x ≤ i → i ≤ tx.length →
    (∀ h' j cl, pCloF tx n R.1.2.2.2.2 i = .inr (j, cl) → RB a h0 h' → NRc (sCl R cl) a h' → j ≤ tx.length → Q none (tH h' j 0 p)) →
    (∀ h' e pl i2, pCloF tx n R.1.2.2.2.2 i = .inl (e, pl) → ¬ e = 0 → RB a h0 h' → i2 ≤ tx.length → Q none (tH h' i2 e pl)) →
    Ex l w true mX5_readClothes (d + 3) Q 2 [some (vr a), some (vr 36), some (vi (nI x)), l3, l4, l5] [] (tH h i 0 p) 0 0 := by
  intro n
  induction n with
  | zero => intro x i h R l3 l4 l5 b hN hf; intros; omega
  | succ n ih =>
    intro x i h R l3 l4 l5 b hN hf hx hi q1 q2
    have h200 := hT.2.1
    have hcl := hN.2.2.2.2.2
    refine clo_it (b.txt ha hT) ha hi (by omega) (fun j m _ e hm hl c1 c2 c3 => ?_) (fun j m _ e hm hl c1 c2 => ?_) (fun j m v _ e hm hl c1 => ?_) (fun e pl i2 v _ e2 he hl => ?_) (fun i2 v z => absurd rfl z)
    · intro l3 l4 l5
      have hj := (pNum_ok e hi).2.2.1
      have hsj := skp_ge tx j
      have e2 : pCloF tx (n + 1) R.1.2.2.2.2 i = pCloF tx n (hL h 390 a ||| (1 <<< ((nI m).toInt64 &&& 63))) (skp tx j + 1) := by
        rw [pCloF, e, pBd, ← hcl, if_pos ((l_get0 (by omega)).mpr c1), if_pos c2]
      rw [e2] at q1 q2
      exact ih (x + 1) (skp tx j + 1) _ (sCl R _) l3 l4 l5 b.sl (hN.cl _) (by omega) (by omega) c3 q1 q2
    · have e2 : pCloF tx (n + 1) R.1.2.2.2.2 i = .inr (skp tx j, hL h 390 a ||| (1 <<< ((nI m).toInt64 &&& 63))) := by
        rw [pCloF, e, pBd, ← hcl, if_pos ((l_get0 (by omega)).mpr c1), if_neg c2]
      exact q1 _ _ _ e2 b.sl (hN.cl _) (skp_le hl)
    · have e2 : pCloF tx (n + 1) R.1.2.2.2.2 i = .inl (4, nI (skp tx i)) := by
        rw [pCloF, e, pBd, ← hcl, if_neg (fun z => by rw [(l_get0 (by omega)).mp z] at c1; cases c1)]
      exact q2 _ _ _ _ e2 (by decide) b.sl hl
    · have e3 : pCloF tx (n + 1) R.1.2.2.2.2 i = .inl (e, pl) := by rw [pCloF, e2]; rfl
      exact q2 _ _ _ _ e3 he b.sl hl
theorem c_readClothes (hT : TXc tx h0) (ha : a = 54 ∨ a = 56) (b : RB a h0 h) (hN : NRc R a h) (hi : i ≤ tx.length)
    (q1 : ∀ h' j cl, pCloF tx (tx.length + 1) R.1.2.2.2.2 i = .inr (j, cl) → RB a h0 h' → NRc (sCl R cl) a h' → j ≤ tx.length → Q none (tH h' j 0 p))
    (q2 : ∀ h' e pl i2, pCloF tx (tx.length + 1) R.1.2.2.2.2 i = .inl (e, pl) → ¬ e = 0 → RB a h0 h' → i2 ≤ tx.length → Q none (tH h' i2 e pl)) : Con l w true (d + 3) HX5_readClothes [vr a, vr 36] (tH h i 0 p) 0 0 Q := by
  refine Con.of ok_X5_readClothes (nones := [none, none, none, none]) rfl (by simp) ?_
  refine go ok_X5_readClothes ?_
  exact clo_lp hT ha (tx.length + 1) 0 i h R none none none b hN (by omega) (by omega) hi q1 q2
theorem c_readClothesF (hT : TXc tx h0) (ha : a = 54 ∨ a = 56) (b : RB a h0 h) (hi : i ≤ tx.length) (hk : ¬ k = 0) (q : ∀ h' i2, RB a h0 h' → i2 ≤ tx.length → Q none (tH h' i2 k p)) : Con l w true (d + 3) HX5_readClothes [vr a, vr 36] (tH h i k p) 0 0 Q := by
  refine Con.of ok_X5_readClothes (nones := [none, none, none, none]) rfl (by simp) ?_
  refine go ok_X5_readClothes ?_
  exact clo_it (x := 0) (b.txt ha hT) ha hi (by decide) (fun j m z => absurd z hk) (fun j m z => absurd z hk) (fun j m v z => absurd z hk) (fun e pl i2 v z => absurd z hk) (fun i2 v _ hl => q _ i2 b.sl hl)
theorem NRc.told (hN : NRc R a h) {m : Nat} (hm : m < 3) : NRc (R.1, tdOn R.2 (12 + m)) a (sI h 387 a (hI h 387 a ||| (1 <<< (nI m &&& 31)))) := by
  obtain ⟨⟨n1, n2⟩, n3, n4, n5, n6, n7⟩ := hN
  refine ⟨⟨n1, ?_⟩, fun k hk => ⟨?_, ?_, ?_⟩, fun k hk => ?_, ?_, ?_, ?_⟩
  · rw [aI_sI]; exact n2
  · show _ = tdOn R.2 (12 + m) k
    rw [hI_sI, if_neg (by omega), tdOn_n (by omega)]
    exact (n3 k hk).1
  · show tdOn R.2 (12 + m) k = _
    rw [tdOn_n (by omega)]
    exact (n3 k hk).2.1
  · show _ = tdOn R.2 (12 + m) (6 + k)
    rw [hI_sI, if_neg (by omega), tdOn_n (by omega)]
    exact (n3 k hk).2.2
  · show _ = tdOn R.2 (12 + m) (12 + k)
    rw [hI_sI, if_pos ⟨rfl, rfl⟩, b_put (by omega) (by omega), n4 k hk]
    by_cases c : k = m
    · rw [c, tdOn_e, decide_eq_true rfl, Bool.or_true]
    · rw [tdOn_n (by omega), decide_eq_false c, Bool.or_false]
  · rw [hI_sI, if_neg (by omega)]; exact n5
  · rw [hI_sI, if_neg (by omega)]; exact n6
  · rw [hL_sI]; exact n7
theorem NRc.night (hN : NRc R a h) (v : Int32) : NRc ((R.1.1, R.1.2.1, v, R.1.2.2.2), R.2) a (sI h 388 a v) := by
  obtain ⟨⟨n1, n2⟩, n3, n4, n5, n6, n7⟩ := hN
  refine ⟨⟨n1, ?_⟩, fun k hk => ?_, fun k hk => ?_, ?_, ?_, ?_⟩
  · rw [aI_sI]; exact n2
  · rw [hI_sI, if_neg (by omega), hI_sI, if_neg (by omega)]; exact n3 k hk
  · rw [hI_sI, if_neg (by omega)]; exact n4 k hk
  · rw [hI_sI, if_pos ⟨rfl, rfl⟩]
  · rw [hI_sI, if_neg (by omega)]; exact n6
  · rw [hL_sI]; exact n7
theorem NRc.pat (hN : NRc R a h) (v : Int32) : NRc ((R.1.1, R.1.2.1, R.1.2.2.1, v, R.1.2.2.2.2), R.2) a (sI h 389 a v) := by
  obtain ⟨⟨n1, n2⟩, n3, n4, n5, n6, n7⟩ := hN
  refine ⟨⟨n1, ?_⟩, fun k hk => ?_, fun k hk => ?_, ?_, ?_, ?_⟩
  · rw [aI_sI]; exact n2
  · rw [hI_sI, if_neg (by omega), hI_sI, if_neg (by omega)]; exact n3 k hk
  · rw [hI_sI, if_neg (by omega)]; exact n4 k hk
  · rw [hI_sI, if_neg (by omega)]; exact n5
  · rw [hI_sI, if_pos ⟨rfl, rfl⟩]
  · rw [hL_sI]; exact n7
theorem NRc.never (hN : NRc R a h) {m : Nat} (hm : m < 6) : NRc ((R.1.1.set m 1, R.1.2), tdOn R.2 m) a (sI h 385 a (hI h 385 a ||| (1 <<< (nI m &&& 31)))) := by
  obtain ⟨⟨n1, n2⟩, n3, n4, n5, n6, n7⟩ := hN
  refine ⟨⟨by show (R.1.1.set m 1).length = 6; rw [List.length_set]; exact n1, ?_⟩, fun k hk => ⟨?_, ?_, ?_⟩, fun k hk => ?_, ?_, ?_, ?_⟩
  · rw [aI_sI]; exact n2
  · show _ = tdOn R.2 m k
    rw [hI_sI, if_pos ⟨rfl, rfl⟩, b_put (by omega) (by omega), (n3 k hk).1]
    by_cases c : k = m
    · rw [c, tdOn_e, decide_eq_true rfl, Bool.or_true]
    · rw [tdOn_n (by omega), decide_eq_false c, Bool.or_false]
  · show tdOn R.2 m k = !decide ((R.1.1.set m 1).getD k 0 = 0)
    rw [getD_set]
    by_cases c : k = m
    · rw [c, tdOn_e, if_pos ⟨rfl, by omega⟩]; rfl
    · rw [tdOn_n (by omega), if_neg (fun z => c z.1)]
      exact (n3 k hk).2.1
  · show _ = tdOn R.2 m (6 + k)
    rw [hI_sI, if_neg (by omega), tdOn_n (by omega)]
    exact (n3 k hk).2.2
  · show _ = tdOn R.2 m (12 + k)
    rw [hI_sI, if_neg (by omega), tdOn_n (by omega)]
    exact n4 k hk
  · rw [hI_sI, if_neg (by omega)]; exact n5
  · rw [hI_sI, if_neg (by omega)]; exact n6
  · rw [hL_sI]; exact n7
end C30

