/-! ===== the class: a program's text; program ===== -/
section C38
variable {l : Launch} {w : WD} {d : Nat} {h h0 H : AH} {Q : Option AV → AH → Prop} {tx : List Int32} {i j q m : Nat} {k p : Int32} {cs : List CLS} {S : SG} {G : GH}
theorem pProgF_s (tx : List Int32) (f : Nat) (cs : List CLS) (i : Nat) : pProgF tx (f + 1) cs i = (if skp tx i < tx.length then (if isCls tx (skp tx i) = true then (if cs.length < 8 then pBd (pClsB tx (skp tx i)) (fun j c => pProgF tx f (cs ++ [c]) j) else .inl (5, nI (skp tx i))) else .inl (1, nI (skp tx i))) else .inr (i, cs)) := by rw [pProgF]
theorem c_readFromP (hS : STH h0) (hT : TXc tx h0) (hd : PD q h0) (hp0 : PMs q h0)
    (q1 : ∀ h' i0 cs j, pProgF tx (tx.length + 1) [] 0 = .inr (i0, cs) → PB q h0 h' → PMc cs q h' → j ≤ tx.length → Q (some (vi (nI cs.length))) (tH h' j 0 p))
    (q2 : ∀ h' e pl i2 v, pProgF tx (tx.length + 1) [] 0 = .inl (e, pl) → ¬ e = 0 → PB q h0 h' → i2 ≤ tx.length → Q (some (vi v)) (tH h' i2 e pl)) : Con l w true (d + 9) HX4_readFrom [vr q, vr 36] (tH h0 0 0 p) 0 0 Q := by
  have h200 := hT.2.1
  have k55 : ∀ H, hC H q = 6 → Q (some (vi (hI H 323 q))) H → Ex l w true mX4_readFrom (d + 9) Q 55 [some (vr q), some (vr 36)] [] H 0 0 := by
    intro H y1 qq
    refine go ok_X4_readFrom ?_
    refine And.intro y1 ?_
    exact qq
  -- behind a fault
  have kf : ∀ h' e pl i2, ¬ e = 0 → hC h' q = 6 → TXc tx h' → i2 ≤ tx.length → (∀ i3 v, i3 ≤ tx.length → Q (some (vi v)) (tH h' i3 e pl)) → Ex l w true mX4_readFrom (d + 9) Q 44 [some (vr q), some (vr 36)] [] (tH h' i2 e pl) 0 0 := by
    intro h' e pl i2 he y1 ht hl qq
    refine go ok_X4_readFrom ?_
    refine Cal.z (c_goesOn ht hl (fun z => absurd z he) (fun z => absurd z he) (fun _ => ?_))
    refine go ok_X4_readFrom ?_
    refine And.intro (fun c => ?_) (fun c => absurd c (by decide))
    exact k55 _ y1 (qq _ _ hl)
  have kg : ∀ h' e pl i2, ¬ e = 0 → hC h' q = 6 → TXc tx h' → i2 ≤ tx.length → (∀ i3 v, i3 ≤ tx.length → Q (some (vi v)) (tH h' i3 e pl)) → Ex l w true mX4_readFrom (d + 9) Q 10 [some (vr q), some (vr 36)] [] (tH h' i2 e pl) 0 0 := by
    intro h' e pl i2 he y1 ht hl qq
    refine go ok_X4_readFrom ?_
    refine And.intro y1 ?_
    refine And.intro (fun c => ?_) (fun c => ?_)
    · exact kf h' e pl i2 he y1 ht hl qq
    · refine go ok_X4_readFrom ?_
      refine Cal.z (c_goesOn ht hl (fun z => absurd z he) (fun z => absurd z he) (fun _ => ?_))
      refine go ok_X4_readFrom ?_
      refine And.intro (fun c2 => ?_) (fun c2 => absurd c2 (by decide))
      exact kf h' e pl i2 he y1 ht hl qq
  have lp : ∀ f i h cs, PB q h0 h → PMc cs q h → tx.length + 1 - i ≤ f → i ≤ tx.length → pProgF tx (tx.length + 1) [] 0 = pProgF tx f cs i → Ex l w true mX4_readFrom (d + 9) Q 10 [some (vr q), some (vr 36)] [] (tH h i 0 p) 0 0 := by
    intro f
    induction f with
    | zero => intro i h cs b hp hf hi e; omega
    | succ f ih =>
      intro i h cs b hp hf hi e
      replace e := e.trans (pProgF_s tx f cs i)
      have hTh := b.txt hd hT
      have hSh := b.st hd hS
      have y1 := hp.1.1
      have hle := skp_le hi
      have h8 := hp.2.2.1
      have nb : ¬ skp tx i < tx.length → Ex l w true mX4_readFrom (d + 9) Q 55 [some (vr q), some (vr 36)] [] (tH h (skp tx i) 0 p) 0 0 := by
        intro c2
        rw [if_neg c2] at e
        have qq := q1 h i cs (skp tx i) e b hp hle
        rw [← hp.2.1] at qq
        exact k55 _ y1 qq
      refine go ok_X4_readFrom ?_
      refine And.intro y1 ?_
      refine asAnd ?_
      rw [show hI (tH h i 0 p) 323 q = nI cs.length from hp.2.1, show (8 : Int32) = nI 8 from rfl, nI_leI (by omega) (by omega)]
      refine And.intro (fun c => ?_) (fun c => ?_)
      · refine go ok_X4_readFrom ?_
        refine Cal.z (c_goesOn hTh hi (fun _ c2 => ?_) (fun _ c2 => ?_) (fun z => absurd rfl z))
        · rw [if_pos c2] at e
          refine go ok_X4_readFrom ?_
          refine And.intro (fun c3 => absurd c3 (by decide)) (fun c3 => ?_)
          refine go ok_X4_readFrom ?_
          refine Cal.z (c_failBehindLast hSh hTh hle (fun i2 hl2 => ?_))
          rw [skp_skp]
          have qq : ∀ v, Q (some (vi v)) (tH h i2 (if isCls tx (skp tx i) = true then 5 else 1) (nI (skp tx i))) := by
            intro v
            by_cases c4 : isCls tx (skp tx i) = true
            · rw [if_pos c4]
              rw [if_pos c4, if_neg (by omega)] at e
              exact q2 h 5 _ i2 v e (by decide) b hl2
            · rw [if_neg c4]
              rw [if_neg c4] at e
              exact q2 h 1 _ i2 v e (by decide) b hl2
          exact k55 _ y1 (qq _)
        · refine go ok_X4_readFrom ?_
          refine And.intro (fun c3 => ?_) (fun c3 => absurd c3 (by decide))
          exact nb c2
      · refine go ok_X4_readFrom ?_
        refine Cal.z (c_goesOn hTh hi (fun _ c2 => ?_) (fun _ c2 => ?_) (fun z => absurd rfl z))
        · rw [if_pos c2] at e
          refine go ok_X4_readFrom ?_
          refine And.intro (fun c3 => absurd c3 (by decide)) (fun c3 => ?_)
          refine go ok_X4_readFrom ?_
          refine And.intro y1 ?_
          refine Cal.z (c_readClauseP hS hT hd hp0 b hp (by omega) hle ⟨fun h' j c ic ec b' hs' hp' hl => ?_, fun h' e2 pl i2 e3 e4 he b' hl => ?_⟩)
          · rw [skp_skp] at ic ec
            rw [if_pos ic, if_pos (by omega), ec] at e
            have g1 := pClsB_ok ec hle
            have g2 := skp_ge tx i
            have hh := ih j (sI h' 323 q (nI (cs.length + 1))) (cs ++ [c]) (b'.s (Or.inl rfl)) hp' (by omega) hl e
            rw [← tH_s2 (by decide), ← nI_1, ← (show hI (tH h' j 0 p) 323 q = nI cs.length from hs')] at hh
            have y2 : hC h' q = 6 := hp'.1.1
            refine go ok_X4_readFrom ?_
            refine And.intro y2 ?_
            refine And.intro y2 ?_
            exact hh
          · rw [skp_skp] at e3 e4
            have qq : ∀ (v2 : Int32) i3 v, i3 ≤ tx.length → Q (some (vi v)) (tH (sI h' 323 q v2) i3 e2 pl) := by
              intro v2 i3 v hl3
              cases c4 : isCls tx (skp tx i) with
              | true =>
                rw [if_pos c4, if_pos (by omega), e3 c4] at e
                exact q2 _ e2 pl i3 v e he (b'.s (Or.inl rfl)) hl3
              | false =>
                rw [if_neg (by rw [c4]; decide), ← e4 c4] at e
                exact q2 _ e2 pl i3 v e he (b'.s (Or.inl rfl)) hl3
            have y2 : hC h' q = 6 := by rw [b'.1.1]; exact hp0.1
            have hh := kg (sI h' 323 q (hI h' 323 q + 1)) e2 pl i2 he y2 ((b'.s (Or.inl rfl)).txt hd hT) hl (qq _)
            rw [← tH_s2 (by decide)] at hh
            refine go ok_X4_readFrom ?_
            refine And.intro y2 ?_
            refine And.intro y2 ?_
            exact hh
        · refine go ok_X4_readFrom ?_
          refine And.intro (fun c3 => ?_) (fun c3 => absurd c3 (by decide))
          refine go ok_X4_readFrom ?_
          refine Cal.z (c_goesOn hTh hle (fun _ c4 => ?_) (fun _ c4 => ?_) (fun z => absurd rfl z))
          · rw [skp_skp] at c4; exact absurd c4 c2
          · rw [skp_skp]
            refine go ok_X4_readFrom ?_
            refine And.intro (fun c5 => ?_) (fun c5 => absurd c5 (by decide))
            exact nb c2
  have pe : PMc [] q (sI (sI h0 323 q 0) 324 q 0) := ⟨hp0.cg rfl (fun _ _ => rfl) (fun _ _ => rfl), by rw [hI_sI, if_neg (by omega), hI_sI, if_pos ⟨rfl, rfl⟩]; rfl, by decide, by rw [hI_sI, if_pos ⟨rfl, rfl⟩]; rfl, fun k hk => absurd hk (Nat.not_lt_zero _)⟩
  have hh := lp (tx.length + 1) 0 (sI (sI h0 323 q 0) 324 q 0) [] (((PB.rf q h0).s (Or.inl rfl)).s (Or.inr rfl)) pe (by omega) (Nat.zero_le _) rfl
  rw [← tH_s2 (by decide), ← tH_s2 (by decide)] at hh
  refine Con.of ok_X4_readFrom (nones := []) rfl (by simp) ?_
  refine go ok_X4_readFrom ?_
  refine And.intro hp0.1 ?_
  refine And.intro hp0.1 ?_
  refine And.intro (Or.inl rfl) ?_
  exact hh
end C38

