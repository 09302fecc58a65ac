/-! ===== the class: read ===== -/
section C32
variable {l : Launch} {w : WD} {d : Nat} {h h0 : AH} {Q : Option AV → AH → Prop} {tx : List Int32} {i j a : Nat} {k p : Int32} {R : NR}
theorem pReadF_s (tx : List Int32) (f n : Nat) (R : NR) (i : Nat) : pReadF tx (f + 1) n R i = (if skp tx i < tx.length then pBd (pRight tx R i) (fun j R' => pReadF tx f (n + 1) R' j) else .inr (i, n, R)) := by rw [pReadF]
theorem c_readFromR (hS : STH h0) (hT : TXc tx h0) (ha : a = 54 ∨ a = 56) (b : RB a h0 h)
    (q1 : ∀ h' i0 n R' j, pReadF tx (tx.length + 1) 0 nr0 0 = .inr (i0, n, R') → RB a h0 h' → NRc R' a h' → j ≤ tx.length → Q (some (vi (nI n))) (tH h' j 0 p))
    (q2 : ∀ h' e pl i2 v, pReadF tx (tx.length + 1) 0 nr0 0 = .inl (e, pl) → ¬ e = 0 → RB a h0 h' → i2 ≤ tx.length → Q (some (vi v)) (tH h' i2 e pl)) : Con l w true (d + 9) HX5_readFrom [vr a, vr 36] (tH h 0 0 p) 0 0 Q := by
  have h200 := hT.2.1
  have k31 : ∀ v H, Q (some (vi v)) H → Ex l w true mX5_readFrom (d + 9) Q 31 [some (vr a), some (vr 36), some (vi v)] [] H 0 0 := by
    intro v H q
    refine go ok_X5_readFrom ?_
    exact q
  have lp : ∀ f n i h R, RB a h0 h → NRc R a h → nvOK R.1.1 → tx.length + 1 - i ≤ f → n ≤ i → i ≤ tx.length → pReadF tx (tx.length + 1) 0 nr0 0 = pReadF tx f n R i → Ex l w true mX5_readFrom (d + 9) Q 6 [some (vr a), some (vr 36), some (vi (nI n))] [] (tH h i 0 p) 0 0 := by
    intro f
    induction f with
    | zero => intro n i h R b hN hv hf hn hi e; omega
    | succ f ih =>
      intro n i h R b hN hv hf hn hi e
      have hTh := b.txt ha hT
      have hge := skp_ge tx i
      replace e := e.trans (pReadF_s tx f n R i)
      refine Ex.lay (fun hy => ?_)
      have y1 := (ri_lets hy ha).1
      refine go ok_X5_readFrom ?_
      refine asAnd ?_
      rw [show (200 : Int32) = nI 200 from rfl, nI_leI (by omega) (by omega)]
      refine And.intro (fun c => ?_) (fun c => ?_)
      · rw [if_neg (by omega)] at e
        exact k31 _ _ (q1 h i n R i e b hN hi)
      · refine go ok_X5_readFrom ?_
        refine Cal.z (c_goesOn hTh hi (fun _ c2 => ?_) (fun _ c2 => ?_) (fun z => absurd rfl z))
        · rw [if_pos c2] at e
          refine go ok_X5_readFrom ?_
          refine And.intro (fun c3 => absurd c3 (by decide)) (fun c3 => ?_)
          refine go ok_X5_readFrom ?_
          refine And.intro y1 ?_
          have es : pRight tx R (skp tx i) = pRight tx R i := by unfold pRight pBody; rw [skp_skp]
          refine Cal.z (c_readClauseR hS hT ha b hN (skp_le hi) (fun h' j R' e2 b' n' hl => ?_) (fun h' e2 pl i2 e3 he b' hl => ?_))
          · rw [es] at e2
            obtain ⟨g1, g2⟩ := pRight_inv e2 hi hv
            rw [e2, pBd] at e
            have hh := ih (n + 1) j h' R' b' n' g2 (by omega) (by omega) hl e
            rw [← nI_1] at hh
            refine go ok_X5_readFrom ?_
            exact hh
          · rw [es] at e3
            rw [e3, pBd] at e
            have q2 := fun i2 v hl => q2 h' e2 pl i2 v e he b' hl
            have k6 : Ex l w true mX5_readFrom (d + 9) Q 6 [some (vr a), some (vr 36), some (vi (nI n + 1))] [] (tH h' i2 e2 pl) 0 0 := by
              refine go ok_X5_readFrom ?_
              refine And.intro (fun c4 => ?_) (fun c4 => ?_)
              · exact k31 _ _ (q2 i2 _ hl)
              · refine go ok_X5_readFrom ?_
                refine Cal.z (c_goesOn (b'.txt ha hT) hl (fun z => absurd z he) (fun z => absurd z he) (fun _ => ?_))
                refine go ok_X5_readFrom ?_
                refine And.intro (fun c5 => ?_) (fun c5 => absurd c5 (by decide))
                exact k31 _ _ (q2 i2 _ hl)
            refine go ok_X5_readFrom ?_
            exact k6
        · rw [if_neg c2] at e
          refine go ok_X5_readFrom ?_
          refine And.intro (fun c3 => ?_) (fun c3 => absurd c3 (by decide))
          exact k31 _ _ (q1 h i n R _ e b hN (skp_le hi))
  refine Con.of ok_X5_readFrom (nones := [none]) rfl (by simp) ?_
  refine Ex.lay (fun hy => ?_)
  have y1 := (ri_lets hy ha).1
  refine go ok_X5_readFrom ?_
  refine And.intro y1 ?_
  refine Cal.z (c_becomeFirst ha b (fun h' b' n' => ?_))
  refine go ok_X5_readFrom ?_
  exact lp (tx.length + 1) 0 0 h' nr0 b' n' (show nvOK [0, 0, 0, 0, 0, 0] from ⟨rfl, by decide⟩) (by omega) (by omega) (by omega) rfl
end C32

