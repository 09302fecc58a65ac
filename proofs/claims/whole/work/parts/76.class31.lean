/-! ===== the class: a clause, all clauses ===== -/
section C31
variable {l : Launch} {w : WD} {d : Nat} {h h0 : AH} {Q : Option AV → AH → Prop} {tx : List Int32} {i j a : Nat} {k p : Int32} {R : NR}
theorem c_readClauseR (hS : STH h0) (hT : TXc tx h0) (ha : a = 54 ∨ a = 56) (b : RB a h0 h) (hN : NRc R a h) (hi : i ≤ tx.length)
    (q1 : ∀ h' j R', pRight tx R i = .inr (j, R') → RB a h0 h' → NRc R' a h' → j ≤ tx.length → Q none (tH h' j 0 p))
    (q2 : ∀ h' e pl i2, pRight tx R i = .inl (e, pl) → ¬ e = 0 → RB a h0 h' → i2 ≤ tx.length → Q none (tH h' i2 e pl)) : Con l w true (d + 8) HX5_readClause [vr a, vr 36] (tH h i 0 p) 0 0 Q := by
  have hle := skp_le hi
  have hTh := b.txt ha hT
  have hSh := b.st ha hS
  have hbb := skp_skp tx i
  have m1 : ∀ h' j R', pBody tx R i = .inr (j, R') → RB a h0 h' → NRc R' a h' → j ≤ tx.length → Ex l w true mX5_readClause (d + 8) Q 142 [some (vr a), some (vr 36), some (vi (nI (skp tx i)))] [] (tH h' j 0 p) 0 0 := by
    intro h' j R' e b' n' hl
    refine go ok_X5_readClause ?_
    refine Cal.z (c_takeSign (b'.txt ha hT) hl (by decide) (fun j2 _ e2 hl2 => ?_) (fun e2 pl i2 _ e3 he hl2 => ?_) (fun i2 z => absurd rfl z))
    · refine go ok_X5_readClause ?_
      exact q1 h' j2 R' (by unfold pRight; rw [e, pBd, e2]; rfl) b' n' hl2
    · refine go ok_X5_readClause ?_
      exact q2 h' e2 pl i2 (by unfold pRight; rw [e, pBd, e3]; rfl) he b' hl2
  have m2 : ∀ h' e pl i2, pBody tx R i = .inl (e, pl) → ¬ e = 0 → RB a h0 h' → i2 ≤ tx.length → Ex l w true mX5_readClause (d + 8) Q 142 [some (vr a), some (vr 36), some (vi (nI (skp tx i)))] [] (tH h' i2 e pl) 0 0 := by
    intro h' e pl i2 e0 he b' hl
    refine go ok_X5_readClause ?_
    refine Cal.z (c_takeSign (b'.txt ha hT) hl (by decide) (fun j2 z => absurd z he) (fun e2 pl i2 z => absurd z he) (fun i3 _ hl2 => ?_))
    refine go ok_X5_readClause ?_
    exact q2 h' e pl i3 (by unfold pRight; rw [e0]; rfl) he b' hl2
  have hj : ∀ n, wAt tx (skp tx (skp tx i)) (wdS n) = wAt tx (skp tx i) (wdS n) := fun n => by rw [hbb]
  unfold pBody at m1 m2
  refine Con.of ok_X5_readClause (nones := [none]) rfl (by simp) ?_
  refine Ex.lay (fun hy => ?_)
  have y1 := (ri_lets hy ha).1
  refine go ok_X5_readClause ?_
  refine Cal.z (c_nextPlace hTh hi ?_)
  refine go ok_X5_readClause ?_
  refine Cal.z (c_passWord hSh hTh hle (n := 0) (by decide) (fun _ c1 hr => ?_) (fun c1 => ?_))
  · -- never
    rw [hbb] at c1 hr ⊢
    rw [if_pos (show wAt tx (skp tx i) wNever = true from c1)] at m1 m2
    unfold pNever at m1 m2
    refine go ok_X5_readClause ?_
    refine And.intro (fun c => absurd c (by decide)) (fun c => ?_)
    refine go ok_X5_readClause ?_
    refine And.intro y1 ?_
    refine And.intro y1 ?_
    refine Cal.z (c_readDoor hTh hr (fun j m e hm hl ht => ?_) (fun j m e hm hl ht => ?_) (fun e pl i2 m e2 he hl hm => ?_))
    · have ht2 : R.2 m = false := by rw [← (hN.2.1 m hm).1]; exact ht
      have hh := m1 _ j _ (by rw [e, pBd, nI_clamp (by omega), if_neg (by rw [ht2]; decide)]) (b.s (by decide)) (hN.never hm) hl
      rw [← tH_s (by decide)] at hh
      refine go ok_X5_readClause ?_
      refine And.intro y1 ?_
      exact hh
    · have ht2 : R.2 m = true := by rw [← (hN.2.1 m hm).1]; exact ht
      have hh := m2 (sI h 385 a (hI h 385 a ||| (1 <<< (nI m &&& 31)))) 3 _ j (by rw [e, pBd, nI_clamp (by omega), if_pos ht2]) (by decide) (b.s (by decide)) hl
      rw [← tH_s (by decide)] at hh
      refine go ok_X5_readClause ?_
      refine And.intro y1 ?_
      exact hh
    · have hh := m2 (sI h 385 a (hI h 385 a ||| (1 <<< (nI m &&& 31)))) e pl i2 (by rw [e2]; rfl) he (b.s (by decide)) hl
      rw [← tH_s (by decide)] at hh
      refine go ok_X5_readClause ?_
      refine And.intro y1 ?_
      exact hh
  · have c1 := c1 rfl
    rw [hj] at c1
    rw [hbb]
    rw [if_neg (show ¬ wAt tx (skp tx i) wNever = true by rw [show wAt tx (skp tx i) wNever = false from c1]; decide)] at m1 m2
    refine go ok_X5_readClause ?_
    refine And.intro (fun c => ?_) (fun c => absurd c (by decide))
    refine go ok_X5_readClause ?_
    refine Cal.z (c_passWord hSh hTh hle (n := 1) (by decide) (fun _ c2 hr => ?_) (fun c2 => ?_))
    · -- let
      rw [hbb] at c2 hr ⊢
      rw [if_pos (show wAt tx (skp tx i) wLet = true from c2)] at m1 m2
      refine go ok_X5_readClause ?_
      refine And.intro (fun c => absurd c (by decide)) (fun c => ?_)
      refine go ok_X5_readClause ?_
      refine And.intro y1 ?_
      refine Cal.z (c_readLet hS hT ha b hN hr (fun h' j R' e b' n' hl => ?_) (fun h' e pl i2 e2 he b' hl => ?_))
      · refine go ok_X5_readClause ?_
        exact m1 h' j R' e b' n' hl
      · refine go ok_X5_readClause ?_
        exact m2 h' e pl i2 e2 he b' hl
    · have c2 := c2 rfl
      rw [hj] at c2
      rw [hbb]
      rw [if_neg (show ¬ wAt tx (skp tx i) wLet = true by rw [show wAt tx (skp tx i) wLet = false from c2]; decide)] at m1 m2
      refine go ok_X5_readClause ?_
      refine And.intro (fun c => ?_) (fun c => absurd c (by decide))
      refine go ok_X5_readClause ?_
      refine Cal.z (c_passWord hSh hTh hle (n := 3) (by decide) (fun _ c3 hr => ?_) (fun c3 => ?_))
      · -- night
        rw [hbb] at c3 hr ⊢
        rw [if_pos (show wAt tx (skp tx i) wNight = true from c3)] at m1 m2
        unfold pNight at m1 m2
        refine go ok_X5_readClause ?_
        refine And.intro (fun c => absurd c (by decide)) (fun c => ?_)
        refine go ok_X5_readClause ?_
        refine And.intro y1 ?_
        refine Cal.z (c_tellOnce ha (m := 0) (by decide) (by decide) (fun ht => ?_) (fun ht => ?_))
        · have ht2 : R.2 12 = false := by rw [← hN.2.2.1 0 (by decide)]; exact ht
          rw [if_neg (by rw [ht2]; decide)] at m1 m2
          have b1 : RB a h0 (sI h 387 a (hI h 387 a ||| 1)) := b.s (by decide)
          have n1 : NRc (R.1, tdOn R.2 12) a (sI h 387 a (hI h 387 a ||| 1)) := hN.told (m := 0) (by decide)
          generalize sI h 387 a (hI h 387 a ||| 1) = h1 at *
          refine go ok_X5_readClause ?_
          refine Cal.z (c_takeNumber (b1.txt ha hT) hr (fun j v _ e hl => ?_) (fun e pl _ e2 he => ?_) (fun z => absurd rfl z))
          · have hh := m1 _ j _ (by rw [e]; rfl) (b1.s (by decide)) (n1.night v) hl
            rw [← tH_s (by decide)] at hh
            refine Ex.lay (fun hy => ?_)
            have y1 := (ri_lets hy ha).1
            refine go ok_X5_readClause ?_
            refine And.intro y1 ?_
            exact hh
          · have hh := m2 (sI h1 388 a 1) e pl _ (by rw [e2]; rfl) he (b1.s (by decide)) (skp_le hr)
            rw [← tH_s (by decide)] at hh
            refine Ex.lay (fun hy => ?_)
            have y1 := (ri_lets hy ha).1
            refine go ok_X5_readClause ?_
            refine And.intro y1 ?_
            exact hh
        · have ht2 : R.2 12 = true := by rw [← hN.2.2.1 0 (by decide)]; exact ht
          rw [if_pos ht2] at m1 m2
          have b1 : RB a h0 (sI h 387 a (hI h 387 a ||| 1)) := b.s (by decide)
          generalize sI h 387 a (hI h 387 a ||| 1) = h1 at *
          refine go ok_X5_readClause ?_
          refine Cal.z (c_takeNumber (b1.txt ha hT) hr (fun j v z => absurd z (by decide)) (fun e pl z => absurd z (by decide)) (fun _ => ?_))
          have hh := m2 (sI h1 388 a 1) 3 _ _ rfl (by decide) (b1.s (by decide)) (skp_le hr)
          rw [← tH_s (by decide)] at hh
          refine Ex.lay (fun hy => ?_)
          have y1 := (ri_lets hy ha).1
          refine go ok_X5_readClause ?_
          refine And.intro y1 ?_
          exact hh
      · have c3 := c3 rfl
        rw [hj] at c3
        rw [hbb]
        rw [if_neg (show ¬ wAt tx (skp tx i) wNight = true by rw [show wAt tx (skp tx i) wNight = false from c3]; decide)] at m1 m2
        refine go ok_X5_readClause ?_
        refine And.intro (fun c => ?_) (fun c => absurd c (by decide))
        refine go ok_X5_readClause ?_
        refine Cal.z (c_passWord hSh hTh hle (n := 4) (by decide) (fun _ c4 hr => ?_) (fun c4 => ?_))
        · -- patience
          rw [hbb] at c4 hr ⊢
          rw [if_pos (show wAt tx (skp tx i) wPat = true from c4)] at m1 m2
          unfold pPat at m1 m2
          refine go ok_X5_readClause ?_
          refine And.intro (fun c => absurd c (by decide)) (fun c => ?_)
          refine go ok_X5_readClause ?_
          refine And.intro y1 ?_
          refine Cal.z (c_tellOnce ha (m := 1) (by decide) (by decide) (fun ht => ?_) (fun ht => ?_))
          · have ht2 : R.2 13 = false := by rw [← hN.2.2.1 1 (by decide)]; exact ht
            rw [if_neg (by rw [ht2]; decide)] at m1 m2
            have b1 : RB a h0 (sI h 387 a (hI h 387 a ||| 2)) := b.s (by decide)
            have n1 : NRc (R.1, tdOn R.2 13) a (sI h 387 a (hI h 387 a ||| 2)) := hN.told (m := 1) (by decide)
            generalize sI h 387 a (hI h 387 a ||| 2) = h1 at *
            refine go ok_X5_readClause ?_
            refine Cal.z (c_takeNumber (b1.txt ha hT) hr (fun j v _ e hl => ?_) (fun e pl _ e2 he => ?_) (fun z => absurd rfl z))
            · have hh := m1 _ j _ (by rw [e]; rfl) (b1.s (by decide)) (n1.pat v) hl
              rw [← tH_s (by decide)] at hh
              refine Ex.lay (fun hy => ?_)
              have y1 := (ri_lets hy ha).1
              refine go ok_X5_readClause ?_
              refine And.intro y1 ?_
              exact hh
            · have hh := m2 (sI h1 389 a 0) e pl _ (by rw [e2]; rfl) he (b1.s (by decide)) (skp_le hr)
              rw [← tH_s (by decide)] at hh
              refine Ex.lay (fun hy => ?_)
              have y1 := (ri_lets hy ha).1
              refine go ok_X5_readClause ?_
              refine And.intro y1 ?_
              exact hh
          · have ht2 : R.2 13 = true := by rw [← hN.2.2.1 1 (by decide)]; exact ht
            rw [if_pos ht2] at m1 m2
            have b1 : RB a h0 (sI h 387 a (hI h 387 a ||| 2)) := b.s (by decide)
            generalize sI h 387 a (hI h 387 a ||| 2) = h1 at *
            refine go ok_X5_readClause ?_
            refine Cal.z (c_takeNumber (b1.txt ha hT) hr (fun j v z => absurd z (by decide)) (fun e pl z => absurd z (by decide)) (fun _ => ?_))
            have hh := m2 (sI h1 389 a 0) 3 _ _ rfl (by decide) (b1.s (by decide)) (skp_le hr)
            rw [← tH_s (by decide)] at hh
            refine Ex.lay (fun hy => ?_)
            have y1 := (ri_lets hy ha).1
            refine go ok_X5_readClause ?_
            refine And.intro y1 ?_
            exact hh
        · have c4 := c4 rfl
          rw [hj] at c4
          rw [hbb]
          rw [if_neg (show ¬ wAt tx (skp tx i) wPat = true by rw [show wAt tx (skp tx i) wPat = false from c4]; decide)] at m1 m2
          refine go ok_X5_readClause ?_
          refine And.intro (fun c => ?_) (fun c => absurd c (by decide))
          refine go ok_X5_readClause ?_
          refine Cal.z (c_passWord hSh hTh hle (n := 5) (by decide) (fun _ c5 hr => ?_) (fun c5 => ?_))
          · -- clothes
            rw [hbb] at c5 hr ⊢
            rw [if_pos (show wAt tx (skp tx i) wClo = true from c5)] at m1 m2
            unfold pClo at m1 m2
            refine go ok_X5_readClause ?_
            refine And.intro (fun c => absurd c (by decide)) (fun c => ?_)
            refine go ok_X5_readClause ?_
            refine And.intro y1 ?_
            refine Cal.z (c_tellOnce ha (m := 2) (by decide) (by decide) (fun ht => ?_) (fun ht => ?_))
            · have ht2 : R.2 14 = false := by rw [← hN.2.2.1 2 (by decide)]; exact ht
              rw [if_neg (by rw [ht2]; decide)] at m1 m2
              have b1 : RB a h0 (sI h 387 a (hI h 387 a ||| 4)) := b.s (by decide)
              have n1 : NRc (R.1, tdOn R.2 14) a (sI h 387 a (hI h 387 a ||| 4)) := hN.told (m := 2) (by decide)
              generalize sI h 387 a (hI h 387 a ||| 4) = h1 at *
              refine Ex.lay (fun hy => ?_)
              have y1 := (ri_lets hy ha).1
              refine go ok_X5_readClause ?_
              refine And.intro y1 ?_
              refine Cal.z (c_readClothes hT ha b1 n1 hr (fun h' j cl e b' n' hl => ?_) (fun h' e pl i2 e2 he b' hl => ?_))
              · refine go ok_X5_readClause ?_
                exact m1 h' j _ (by rw [show pCloF tx (tx.length + 1) R.1.2.2.2.2 (run isLt tx (skp tx i)) = .inr (j, cl) from e]; rfl) b' n' hl
              · refine go ok_X5_readClause ?_
                exact m2 h' e pl i2 (by rw [show pCloF tx (tx.length + 1) R.1.2.2.2.2 (run isLt tx (skp tx i)) = .inl (e, pl) from e2]; rfl) he b' hl
            · have ht2 : R.2 14 = true := by rw [← hN.2.2.1 2 (by decide)]; exact ht
              rw [if_pos ht2] at m1 m2
              have b1 : RB a h0 (sI h 387 a (hI h 387 a ||| 4)) := b.s (by decide)
              generalize sI h 387 a (hI h 387 a ||| 4) = h1 at *
              refine Ex.lay (fun hy => ?_)
              have y1 := (ri_lets hy ha).1
              refine go ok_X5_readClause ?_
              refine And.intro y1 ?_
              refine Cal.z (c_readClothesF hT ha b1 hr (by decide) (fun h' i2 b' hl => ?_))
              refine go ok_X5_readClause ?_
              exact m2 h' 3 _ i2 rfl (by decide) b' hl
          · have c5 := c5 rfl
            rw [hj] at c5
            rw [hbb]
            rw [if_neg (show ¬ wAt tx (skp tx i) wClo = true by rw [show wAt tx (skp tx i) wClo = false from c5]; decide)] at m1 m2
            refine go ok_X5_readClause ?_
            refine And.intro (fun c => ?_) (fun c => absurd c (by decide))
            refine go ok_X5_readClause ?_
            refine Cal.z (c_fail (fun _ => ?_) (fun z => absurd rfl z))
            exact m2 h 1 _ _ rfl (by decide) b hle
end C31

