/-! ===== the class: clothes, a clause, all rights ===== -/
section C29
variable {l : Launch} {w : WD} {d : Nat} {h h0 : AH} {Q : Option AV → AH → Prop} {tx : List Int32} {i j a : Nat} {k p : Int32} {R : NR}
def sCl (R : NR) (cl : Int64) : NR := ((R.1.1, R.1.2.1, R.1.2.2.1, R.1.2.2.2.1, cl), R.2)
theorem NRc.cl (hN : NRc R a h) (cl : Int64) : NRc (sCl R cl) a (sL h 390 a cl) := by
  obtain ⟨⟨n1, n2⟩, n3, n4, n5, n6, n7⟩ := hN
  refine ⟨⟨n1, ?_⟩, ?_, ?_, ?_, ?_, ?_⟩
  · rw [aI_sL]; exact n2
  · rw [hI_sL]; exact n3
  · rw [hI_sL]; exact n4
  · rw [hI_sL]; exact n5
  · rw [hI_sL]; exact n6
  · rw [hL_sL, if_pos ⟨rfl, rfl⟩]; rfl
theorem clo_it (hT : TXc tx h) (ha : a = 54 ∨ a = 56) (hi : i ≤ tx.length) {x : Nat} (hx : x < 200) {l3 l4 l5 : Option AV}
    (q1 : ∀ j m, k = 0 → pNum tx 0 59 i = .inr (j, nI m) → m < 60 → j ≤ tx.length → bl (hL h 390 a) m = false → tAt tx (skp tx j) = 44 → skp tx j + 1 ≤ tx.length → ∀ l3 l4 l5, Ex l w true mX5_readClothes (d + 3) Q 2 [some (vr a), some (vr 36), some (vi (nI (x + 1))), l3, l4, l5] [] (tH (sL h 390 a (hL h 390 a ||| (1 <<< ((nI m).toInt64 &&& 63)))) (skp tx j + 1) 0 p) 0 0)
    (q2 : ∀ j m, k = 0 → pNum tx 0 59 i = .inr (j, nI m) → m < 60 → j ≤ tx.length → bl (hL h 390 a) m = false → ¬ tAt tx (skp tx j) = 44 → Q none (tH (sL h 390 a (hL h 390 a ||| (1 <<< ((nI m).toInt64 &&& 63)))) (skp tx j) 0 p))
    (q3 : ∀ j m v, k = 0 → pNum tx 0 59 i = .inr (j, nI m) → m < 60 → j ≤ tx.length → bl (hL h 390 a) m = true → Q none (tH (sL h 390 a v) j 4 (nI (skp tx i))))
    (q4 : ∀ e pl i2 v, k = 0 → pNum tx 0 59 i = .inl (e, pl) → ¬ e = 0 → i2 ≤ tx.length → Q none (tH (sL h 390 a v) i2 e pl))
    (q5 : ∀ i2 v, ¬ k = 0 → i2 ≤ tx.length → Q none (tH (sL h 390 a v) i2 k p)) :
    Ex l w true mX5_readClothes (d + 3) Q 2 [some (vr a), some (vr 36), some (vi (nI x)), l3, l4, l5] [] (tH h i k p) 0 0 := by
  have hle := skp_le hi
  have fF : ∀ i2 k2 p2 u (l3 l5 : Option AV), ¬ k2 = 0 → i2 ≤ tx.length → (∀ v, Q none (tH (sL h 390 a v) i2 k2 p2)) → Ex l w true mX5_readClothes (d + 3) Q 43 [some (vr a), some (vr 36), some (vi (nI x)), l3, some (vl u), l5] [] (tH h i2 k2 p2) 0 0 := by
    intro i2 k2 p2 u l3 l5 hk hi2 q
    refine Ex.lay (fun hy => ?_)
    have y1 := (ri_lets hy ha).1
    have q := q (hL h 390 a ||| u)
    refine go ok_X5_readClothes ?_
    refine And.intro y1 ?_
    refine And.intro y1 ?_
    refine asCal ?_
    rw [show hL (tH h i2 k2 p2) 390 a = hL h 390 a from rfl, tH_sl]
    refine Cal.z (c_passSign (h := sL h 390 a (hL h 390 a ||| u)) hT hi2 (by decide) (fun z => absurd z hk) (fun z => absurd z hk) (fun _ => ?_))
    refine go ok_X5_readClothes ?_
    refine And.intro (fun c => absurd c (by decide)) (fun c => ?_)
    refine go ok_X5_readClothes ?_
    exact q
  refine Ex.lay (fun hy => ?_)
  have y1 := (ri_lets hy ha).1
  refine go ok_X5_readClothes ?_
  refine asAnd ?_
  rw [show (200 : Int32) = nI 200 from rfl, nI_leI (by omega) (by omega)]
  refine And.intro (fun c => ?_) (fun c => ?_)
  · omega
  · refine go ok_X5_readClothes ?_
    refine Cal.z (c_nextPlace hT hi ?_)
    refine go ok_X5_readClothes ?_
    refine Cal.z (c_takeNumber hT hle (fun j v k0 e hl => ?_) (fun e pl k0 e2 he => ?_) (fun k0 => ?_))
    · rw [pNum_skp] at e
      obtain ⟨v1, v2, -, -⟩ := pNum_ok e hi
      obtain ⟨m, hm, rfl⟩ := natOf (n := 59) (by decide) v1 v2
      subst k0
      refine go ok_X5_readClothes ?_
      refine And.intro y1 ?_
      refine asAnd ?_
      rw [show hL (tH h j 0 p) 390 a = hL h 390 a from rfl, lg_cmp_eq, l_has (by omega)]
      refine And.intro (fun c2 => ?_) (fun c2 => ?_)
      · refine Ex.lay (fun hy => ?_)
        refine go ok_X5_readClothes ?_
        refine And.intro y1 ?_
        refine And.intro y1 ?_
        refine asCal ?_
        rw [show hL (tH h j 0 p) 390 a = hL h 390 a from rfl, tH_sl]
        refine Cal.z (c_passSign (h := sL h 390 a (hL h 390 a ||| (1 <<< ((nI m).toInt64 &&& 63)))) hT hl (by decide) (fun _ c3 c4 => ?_) (fun _ c3 => ?_) (fun z => absurd rfl z))
        · have q := q1 j m rfl e (by omega) hl c2 c3 c4
          rw [← nI_1] at q
          refine go ok_X5_readClothes ?_
          refine And.intro (fun c5 => ?_) (fun c5 => absurd c5 (by decide))
          refine go ok_X5_readClothes ?_
          exact q _ _ _
        · refine go ok_X5_readClothes ?_
          refine And.intro (fun c5 => absurd c5 (by decide)) (fun c5 => ?_)
          refine go ok_X5_readClothes ?_
          exact q2 j m rfl e (by omega) hl c2 c3
      · refine go ok_X5_readClothes ?_
        refine Cal.z (c_fail (fun _ => ?_) (fun z => absurd rfl z))
        exact fF j 4 _ _ _ _ (by decide) hl (fun v => q3 j m v rfl e (by omega) hl (by simpa using c2))
    · rw [pNum_skp] at e2
      have hf := fun u l3 l5 => fF (skp tx (skp tx i)) e pl u l3 l5 he (skp_le hle) (fun v => q4 e pl _ v k0 e2 he (skp_le hle))
      refine go ok_X5_readClothes ?_
      refine And.intro y1 ?_
      refine And.intro (fun c2 => ?_) (fun c2 => ?_)
      · exact hf _ _ _
      · refine go ok_X5_readClothes ?_
        refine Cal.z (c_fail (fun z => absurd z he) (fun _ => ?_))
        exact hf _ _ _
    · have hf := fun u l3 l5 => fF (skp tx (skp tx i)) k p u l3 l5 k0 (skp_le hle) (fun v => q5 _ v k0 (skp_le hle))
      refine go ok_X5_readClothes ?_
      refine And.intro y1 ?_
      refine And.intro (fun c2 => ?_) (fun c2 => ?_)
      · exact hf _ _ _
      · refine go ok_X5_readClothes ?_
        refine Cal.z (c_fail (fun z => absurd z k0) (fun _ => ?_))
        exact hf _ _ _
end C29

