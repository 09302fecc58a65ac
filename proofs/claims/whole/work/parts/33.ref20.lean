/-! ===== the reference: read ===== -/
theorem list6 {L : List Int32} {c : Int32} (h : L.length = 6) (e : ∀ j, j < 6 → L.getD j 0 = c) : L = [c, c, c, c, c, c] := by
  match L, h with
  | [x0, x1, x2, x3, x4, x5], _ =>
    have e0 : x0 = c := e 0 (by decide)
    have e1 : x1 = c := e 1 (by decide)
    have e2 : x2 = c := e 2 (by decide)
    have e3 : x3 = c := e 3 (by decide)
    have e4 : x4 = c := e 4 (by decide)
    have e5 : x5 = c := e 5 (by decide)
    rw [e0, e1, e2, e3, e4, e5]
section R20
variable {l : Launch} {w : WD} {d : Nat} {h h0 : AH} {Q : Option AV → AH → Prop} {S : SG} {pos : Nat} {R : NR}
theorem pCloF_ok {tx : List Int32} : ∀ (n : Nat) (cl : Int64) (i j : Nat) (c2 : Int64), pCloF tx n cl i = .inr (j, c2) → i ≤ tx.length → i < j ∧ j ≤ tx.length
  | 0, cl, i, j, c2, e, hi => by cases e
  | n + 1, cl, i, j, c2, e, hi => by
    unfold pCloF pBd at e
    cases e1 : pNum tx 0 59 i with
    | inl x => rw [e1] at e; cases e
    | inr x =>
      obtain ⟨j1, p⟩ := x
      rw [e1] at e
      dsimp only at e
      obtain ⟨-, -, g3, g4⟩ := pNum_ok e1 hi
      have g5 := skp_ge tx j1
      have g6 := skp_le g4
      split at e
      · split at e
        · rename_i c
          have hlt : skp tx j1 < tx.length := by
            rcases Nat.lt_or_ge (skp tx j1) tx.length with z | z
            · exact z
            · rw [tAt_out z] at c; exact absurd c (by decide)
          obtain ⟨a, b⟩ := pCloF_ok n _ _ j c2 e (by omega)
          exact ⟨by omega, b⟩
        · injection e with e
          injection e with e2 e3
          subst e2
          exact ⟨by omega, g6⟩
      · cases e
theorem r_readClothes_loop : ∀ (n : Nat) (cl : Int64) (i : Nat) (h : AH) (R : NR) (l2 : Option AV), okT S h0 i h → NRH R h → R.1.2.2.2.2 = cl → (gTx S).length + 1 - i ≤ n → (∀ h' k p, pCloF (gTx S) n cl i = .inl (k, p) → ftT S h0 k p h' → Q none h') → (∀ h' j c2, pCloF (gTx S) n cl i = .inr (j, c2) → okT S h0 j h' → NRH ((R.1.1, R.1.2.1, R.1.2.2.1, R.1.2.2.2.1, c2), R.2) h' → Q none h') →
    Ex l w true mX9_readClothes (d + 2) Q 2 [some (vr 62), some (vi 1), l2] [] h 0 0 := by
  intro n
  induction n with
  | zero =>
    intro cl i h R l2 ht hN ecl hm q1 q2
    have := ht.2.2.2.2
    omega
  | succ n ih =>
    intro cl i h R l2 ht hN ecl hm q1 q2
    unfold pCloF pBd at q1 q2
    -- behind a fault
    have k98 : ∀ (h' : AH) (k p : Int32) (x y : Int32), ftT S h0 k p h' → Q none h' → Ex l w true mX9_readClothes (d + 2) Q 98 [some (vr 62), some (vi x), some (vi y)] [] h' 0 0 := by
      intro h' k p x y hft hq
      refine go ok_X9_readClothes ?_
      refine go ok_X9_readClothes ?_
      refine And.intro (fun c => ?_) (fun c => ?_)
      · refine go ok_X9_readClothes ?_
        exact hq
      · refine go ok_X9_readClothes ?_
        refine And.intro (fun c => ?_) (fun c => absurd c hft.ne)
        refine go ok_X9_readClothes ?_
        exact hq
    refine go ok_X9_readClothes ?_
    refine And.intro (fun c => absurd c (by decide)) (fun c => ?_)
    refine go ok_X9_readClothes ?_
    refine asAnd ?_
    rw [ht.2.2.2.1]
    refine And.intro (fun c => absurd c (by decide)) (fun c => ?_)
    refine go ok_X9_readClothes ?_
    refine Cal.z (r_takeNumber ht (fun h' k p v e hft ho => ?_) (fun h' j v e ht' ho hbg => ?_))
    · rw [e] at q1
      refine go ok_X9_readClothes ?_
      refine And.intro (fun c => ?_) (fun c => absurd c hft.ne)
      exact k98 h' k p _ _ hft (q1 _ _ _ rfl hft)
    · rw [e] at q1 q2
      dsimp only at q1 q2
      obtain ⟨g1, g2, g3, g4⟩ := pNum_ok e ht.2.2.2.2
      have hN' := hN.ot ho
      have ecl' : hL h' 668 62 = cl := hN'.2.2.2.2.1.trans ecl
      refine go ok_X9_readClothes ?_
      refine asAnd ?_
      rw [ht'.2.2.2.1]
      refine And.intro (fun c => absurd c (by decide)) (fun c => ?_)
      refine go ok_X9_readClothes ?_
      refine asAnd ?_
      rw [ecl', lg_cmp_eq]
      refine And.intro (fun c2 => ?_) (fun c2 => ?_)
      · rw [if_neg c2] at q1
        refine go ok_X9_readClothes ?_
        refine Cal.z (r_want0 ht'.2.2.2.1 (by decide) ?_)
        have hf4 : ftT S h0 4 (nI (skp (gTx S) i)) (sI (sI h' 660 62 4) 661 62 (hI h' 662 62)) := ht'.fb (((OW.rf h').s (by decide)).s (by decide)) rfl hbg (by decide)
        refine go ok_X9_readClothes ?_
        refine And.intro (fun c3 => ?_) (fun c3 => absurd c3 (by decide))
        exact k98 _ _ _ _ _ hf4 (q1 _ _ _ rfl hf4)
      · rw [if_pos c2] at q1 q2
        refine go ok_X9_readClothes ?_
        refine Cal.z (r_want1 ht'.2.2.2.1 ?_)
        refine go ok_X9_readClothes ?_
        refine And.intro (fun c3 => absurd c3 (by decide)) (fun c3 => ?_)
        have ht2 : okT S h0 j (sL h' 668 62 (cl ||| (1 <<< (v.toInt64 &&& 63)))) := ht'.ob ((OW.rf h').sl) ht'.2.2.1 rfl rfl g4
        have hN2 : NRH ((R.1.1, R.1.2.1, R.1.2.2.1, R.1.2.2.2.1, cl ||| (1 <<< (v.toInt64 &&& 63))), R.2) (sL h' 668 62 (cl ||| (1 <<< (v.toInt64 &&& 63)))) := ⟨hN'.1, hN'.2.1, hN'.2.2.1, hN'.2.2.2.1, rfl, hN'.2.2.2.2.2⟩
        have hle := skp_le g4
        have hge := skp_ge (gTx S) j
        refine go ok_X9_readClothes ?_
        refine asCal ?_
        rw [ecl']
        refine Cal.z (r_peek ht2.m6 ht2.2.2.1 g4 ?_)
        generalize sL h' 668 62 (cl ||| (1 <<< (v.toInt64 &&& 63))) = h2 at ht2 hN2
        refine go ok_X9_readClothes ?_
        refine And.intro (fun c4 => ?_) (fun c4 => ?_)
        · rw [if_neg c4] at q2
          have ht3 : okT S h0 (skp (gTx S) j) (sI (sI h2 659 62 (nI (skp (gTx S) j))) 659 62 (nI (skp (gTx S) j) + b2i false)) := ht2.ob (((OW.rf h2).s (by decide)).s (by decide)) (by show nI (skp (gTx S) j) + 0 = _; rw [Int32.add_zero]) rfl rfl hle
          have hN3 : NRH ((R.1.1, R.1.2.1, R.1.2.2.1, R.1.2.2.2.1, cl ||| (1 <<< (v.toInt64 &&& 63))), R.2) (sI (sI h2 659 62 (nI (skp (gTx S) j))) 659 62 (nI (skp (gTx S) j) + b2i false)) := hN2
          refine go ok_X9_readClothes ?_
          refine go ok_X9_readClothes ?_
          refine Cal.z (r_one (b := false) ?_)
          refine go ok_X9_readClothes ?_
          refine go ok_X9_readClothes ?_
          refine go ok_X9_readClothes ?_
          refine And.intro (fun c5 => ?_) (fun c5 => absurd c5 (by decide))
          refine go ok_X9_readClothes ?_
          exact q2 _ _ _ rfl ht3 hN3
        · rw [if_pos c4] at q1 q2
          have hlt : skp (gTx S) j < (gTx S).length := by
            rcases Nat.lt_or_ge (skp (gTx S) j) (gTx S).length with z | z
            · exact z
            · rw [tAt_out z] at c4; exact absurd c4 (by decide)
          have ht3 : okT S h0 (skp (gTx S) j + 1) (sI (sI h2 659 62 (nI (skp (gTx S) j))) 659 62 (nI (skp (gTx S) j) + b2i true)) := ht2.ob (((OW.rf h2).s (by decide)).s (by decide)) (nI_1 _) rfl rfl (by omega)
          have hN3 : NRH ((R.1.1, R.1.2.1, R.1.2.2.1, R.1.2.2.2.1, cl ||| (1 <<< (v.toInt64 &&& 63))), R.2) (sI (sI h2 659 62 (nI (skp (gTx S) j))) 659 62 (nI (skp (gTx S) j) + b2i true)) := hN2
          refine go ok_X9_readClothes ?_
          refine go ok_X9_readClothes ?_
          refine Cal.z (r_one (b := true) ?_)
          refine go ok_X9_readClothes ?_
          refine go ok_X9_readClothes ?_
          exact ih _ _ _ _ _ ht3 hN3 rfl (by omega) q1 q2
theorem r_readClothes (ht : okT S h0 pos h) (hN : NRH R h) (q1 : ∀ h' k p, pCloF (gTx S) ((gTx S).length + 1) R.1.2.2.2.2 pos = .inl (k, p) → ftT S h0 k p h' → Q none h') (q2 : ∀ h' j c2, pCloF (gTx S) ((gTx S).length + 1) R.1.2.2.2.2 pos = .inr (j, c2) → okT S h0 j h' → NRH ((R.1.1, R.1.2.1, R.1.2.2.1, R.1.2.2.2.1, c2), R.2) h' → Q none h') : Con l w true (d + 2) HX9_readClothes [vr 62] h 0 0 Q := by
  refine Con.of ok_X9_readClothes (nones := [none, none]) rfl (by simp) ?_
  refine go ok_X9_readClothes ?_
  exact r_readClothes_loop _ _ _ _ _ _ ht hN rfl (by omega) q1 q2
theorem r_readRight (ht : okT S h0 pos h) (hN : NRH R h) (q1 : ∀ h' k p, pRight (gTx S) R pos = .inl (k, p) → ftT S h0 k p h' → Q none h') (q2 : ∀ h' j R', pRight (gTx S) R pos = .inr (j, R') → okT S h0 j h' → NRH R' h' → Q none h') : Con l w true (d + 3) HX9_readRight [vr 62] h 0 0 Q := by
  have hle := skp_le ht.2.2.2.2
  unfold pRight at q1 q2
  refine Con.of ok_X9_readRight (nones := [none, none]) rfl (by simp) ?_
  -- the end of a clause
  have kF : ∀ (h' : AH) (k p x : Int32) l2, pBody (gTx S) R pos = .inl (k, p) → ftT S h0 k p h' → Ex l w true mX9_readRight (d + 3) Q 215 [some (vr 62), some (vi x), l2] [] h' 0 0 := by
    intro h' k p x l2 e hft
    rw [e] at q1
    refine go ok_X9_readRight ?_
    refine Cal.z (r_takeEndF hft.gt ?_)
    refine go ok_X9_readRight ?_
    exact q1 _ _ _ rfl hft
  have kO : ∀ (h' : AH) (j : Nat) (R' : NR) (x : Int32) l2, pBody (gTx S) R pos = .inr (j, R') → okT S h0 j h' → NRH R' h' → Ex l w true mX9_readRight (d + 3) Q 215 [some (vr 62), some (vi x), l2] [] h' 0 0 := by
    intro h' j R' x l2 e ht' hN'
    rw [e] at q1 q2
    dsimp only [pBd] at q1 q2
    refine go ok_X9_readRight ?_
    refine Cal.z (r_takeEnd ht' (fun h2 k p e2 hft _ => ?_) (fun h2 j2 e2 ht2 ho2 => ?_))
    · rw [e2] at q1
      refine go ok_X9_readRight ?_
      exact q1 _ _ _ rfl hft
    · rw [e2] at q2
      refine go ok_X9_readRight ?_
      exact q2 _ _ _ rfl ht2 (hN'.ot ho2)
  refine go ok_X9_readRight ?_
  refine Cal.z (r_takeWord ht (fun h1 ht1 ho1 b1 l1 => ?_))
  have hN1 := hN.ot ho1
  unfold pBody at kF kO
  generalize hb : skp (gTx S) pos = b at *
  generalize he : run isLt (gTx S) b = e at *
  have l1' : hI h1 663 62 = nI (run isLt (gTx S) b - b) := by rw [he]; exact l1
  refine go ok_X9_readRight ?_
  refine Cal.z (r_isWordA (n := 5) (ws := wNever) ht1.m6 b1 l1' hle (by decide) rfl ?_)
  rw [b1]
  by_cases c1 : wAt (gTx S) b wNever = true
  · rw [if_pos c1] at kF kO
    rw [c1]
    refine go ok_X9_readRight ?_
    refine And.intro (fun c => absurd c (by decide)) (fun c => ?_)
    refine go ok_X9_readRight ?_
    refine Cal.z (r_readNever ht1 hN1 (fun h2 k p e2 hft => ?_) (fun h2 j R' e2 ht2 hN2 => ?_))
    · refine go ok_X9_readRight ?_
      exact kF _ _ _ _ _ e2 hft
    · refine go ok_X9_readRight ?_
      exact kO _ _ _ _ _ e2 ht2 hN2
  · rw [if_neg c1] at kF kO
    rw [show wAt (gTx S) b wNever = false by simpa using c1]
    refine go ok_X9_readRight ?_
    refine And.intro (fun c => ?_) (fun c => absurd c (by decide))
    refine go ok_X9_readRight ?_
    refine Cal.z (r_isWordA (n := 3) (ws := wLet) ht1.m6 b1 l1' hle (by decide) rfl ?_)
    by_cases c2 : wAt (gTx S) b wLet = true
    · rw [if_pos c2] at kF kO
      rw [c2]
      refine go ok_X9_readRight ?_
      refine And.intro (fun c => absurd c (by decide)) (fun c => ?_)
      refine go ok_X9_readRight ?_
      refine Cal.z (r_readLet ht1 hN1 (fun h2 k p e2 hft => ?_) (fun h2 j R' e2 ht2 hN2 => ?_))
      · refine go ok_X9_readRight ?_
        exact kF _ _ _ _ _ e2 hft
      · refine go ok_X9_readRight ?_
        exact kO _ _ _ _ _ e2 ht2 hN2
    · rw [if_neg c2] at kF kO
      rw [show wAt (gTx S) b wLet = false by simpa using c2]
      refine go ok_X9_readRight ?_
      refine And.intro (fun c => ?_) (fun c => absurd c (by decide))
      refine go ok_X9_readRight ?_
      refine Cal.z (r_isWordA (n := 5) (ws := wNight) ht1.m6 b1 l1' hle (by decide) rfl ?_)
      by_cases c3 : wAt (gTx S) b wNight = true
      · rw [if_pos c3] at kF kO
        rw [c3]
        unfold pNight at kF kO
        refine go ok_X9_readRight ?_
        refine And.intro (fun c => absurd c (by decide)) (fun c => ?_)
        refine go ok_X9_readRight ?_
        refine Cal.z (r_once (R := R) (k := 12) (by decide) ht1.2.2.2.1 (hN1.2.2.2.2.2 12 (by decide)) (fun e2 => ?_) (fun e2 => ?_))
        · rw [if_neg (by rw [e2]; decide)] at kF kO
          have ht2 : okT S h0 e (sI h1 669 62 (hI h1 669 62 ||| ((1 : Int32) <<< (nI 12 &&& 31)))) := ht1.ob ((OW.rf h1).s (by decide)) ht1.2.2.1 rfl rfl ht1.2.2.2.2
          have hN2 : NRH (R.1, tdOn R.2 12) (sI h1 669 62 (hI h1 669 62 ||| ((1 : Int32) <<< (nI 12 &&& 31)))) := ⟨hN1.1, hN1.2.1, hN1.2.2.1, hN1.2.2.2.1, hN1.2.2.2.2.1, td_on (by decide) hN1.2.2.2.2.2⟩
          generalize sI h1 669 62 (hI h1 669 62 ||| ((1 : Int32) <<< (nI 12 &&& 31))) = h2 at ht2 hN2
          refine go ok_X9_readRight ?_
          refine And.intro (fun c => absurd c (by decide)) (fun c => ?_)
          refine go ok_X9_readRight ?_
          refine Cal.z (r_takeNumber ht2 (fun h3 k p v e3 hft ho => ?_) (fun h3 j v e3 ht3 ho hbg => ?_))
          · rw [e3] at kF
            refine go ok_X9_readRight ?_
            exact kF _ _ _ _ _ rfl (hft.ob ((OW.rf h3).s (by decide)) rfl rfl)
          · rw [e3] at kO
            obtain ⟨-, -, -, g4⟩ := pNum_ok e3 ht2.2.2.2.2
            have hN3 := hN2.ot ho
            refine go ok_X9_readRight ?_
            exact kO _ _ _ _ _ rfl (ht3.ob ((OW.rf h3).s (by decide)) ht3.2.2.1 rfl rfl g4) ⟨hN3.1, hN3.2.1, rfl, hN3.2.2.2.1, hN3.2.2.2.2.1, hN3.2.2.2.2.2⟩
        · rw [if_pos e2] at kF
          refine go ok_X9_readRight ?_
          refine And.intro (fun c => ?_) (fun c => absurd c (by decide))
          refine go ok_X9_readRight ?_
          exact kF _ _ _ _ _ rfl (ht1.fb (((((OW.rf h1).s (by decide)).s (by decide)).s (by decide)).s (by decide)) rfl rfl (by decide))
      · rw [if_neg c3] at kF kO
        rw [show wAt (gTx S) b wNight = false by simpa using c3]
        refine go ok_X9_readRight ?_
        refine And.intro (fun c => ?_) (fun c => absurd c (by decide))
        refine go ok_X9_readRight ?_
        refine Cal.z (r_isWordA (n := 8) (ws := wPat) ht1.m6 b1 l1' hle (by decide) rfl ?_)
        by_cases c4 : wAt (gTx S) b wPat = true
        · rw [if_pos c4] at kF kO
          rw [c4]
          unfold pPat at kF kO
          refine go ok_X9_readRight ?_
          refine And.intro (fun c => absurd c (by decide)) (fun c => ?_)
          refine go ok_X9_readRight ?_
          refine Cal.z (r_once (R := R) (k := 13) (by decide) ht1.2.2.2.1 (hN1.2.2.2.2.2 13 (by decide)) (fun e2 => ?_) (fun e2 => ?_))
          · rw [if_neg (by rw [e2]; decide)] at kF kO
            have ht2 : okT S h0 e (sI h1 669 62 (hI h1 669 62 ||| ((1 : Int32) <<< (nI 13 &&& 31)))) := ht1.ob ((OW.rf h1).s (by decide)) ht1.2.2.1 rfl rfl ht1.2.2.2.2
            have hN2 : NRH (R.1, tdOn R.2 13) (sI h1 669 62 (hI h1 669 62 ||| ((1 : Int32) <<< (nI 13 &&& 31)))) := ⟨hN1.1, hN1.2.1, hN1.2.2.1, hN1.2.2.2.1, hN1.2.2.2.2.1, td_on (by decide) hN1.2.2.2.2.2⟩
            generalize sI h1 669 62 (hI h1 669 62 ||| ((1 : Int32) <<< (nI 13 &&& 31))) = h2 at ht2 hN2
            refine go ok_X9_readRight ?_
            refine And.intro (fun c => absurd c (by decide)) (fun c => ?_)
            refine go ok_X9_readRight ?_
            refine Cal.z (r_takeNumber ht2 (fun h3 k p v e3 hft ho => ?_) (fun h3 j v e3 ht3 ho hbg => ?_))
            · rw [e3] at kF
              refine go ok_X9_readRight ?_
              exact kF _ _ _ _ _ rfl (hft.ob ((OW.rf h3).s (by decide)) rfl rfl)
            · rw [e3] at kO
              obtain ⟨-, -, -, g4⟩ := pNum_ok e3 ht2.2.2.2.2
              have hN3 := hN2.ot ho
              refine go ok_X9_readRight ?_
              exact kO _ _ _ _ _ rfl (ht3.ob ((OW.rf h3).s (by decide)) ht3.2.2.1 rfl rfl g4) ⟨hN3.1, hN3.2.1, hN3.2.2.1, rfl, hN3.2.2.2.2.1, hN3.2.2.2.2.2⟩
          · rw [if_pos e2] at kF
            refine go ok_X9_readRight ?_
            refine And.intro (fun c => ?_) (fun c => absurd c (by decide))
            refine go ok_X9_readRight ?_
            exact kF _ _ _ _ _ rfl (ht1.fb (((((OW.rf h1).s (by decide)).s (by decide)).s (by decide)).s (by decide)) rfl rfl (by decide))
        · rw [if_neg c4] at kF kO
          rw [show wAt (gTx S) b wPat = false by simpa using c4]
          refine go ok_X9_readRight ?_
          refine And.intro (fun c => ?_) (fun c => absurd c (by decide))
          refine go ok_X9_readRight ?_
          refine Cal.z (r_isWordA (n := 7) (ws := wClo) ht1.m6 b1 l1' hle (by decide) rfl ?_)
          by_cases c5 : wAt (gTx S) b wClo = true
          · rw [if_pos c5] at kF kO
            rw [c5]
            unfold pClo at kF kO
            refine go ok_X9_readRight ?_
            refine And.intro (fun c => absurd c (by decide)) (fun c => ?_)
            refine go ok_X9_readRight ?_
            refine Cal.z (r_once (R := R) (k := 14) (by decide) ht1.2.2.2.1 (hN1.2.2.2.2.2 14 (by decide)) (fun e2 => ?_) (fun e2 => ?_))
            · rw [if_neg (by rw [e2]; decide)] at kF kO
              have ht2 : okT S h0 e (sI h1 669 62 (hI h1 669 62 ||| ((1 : Int32) <<< (nI 14 &&& 31)))) := ht1.ob ((OW.rf h1).s (by decide)) ht1.2.2.1 rfl rfl ht1.2.2.2.2
              have hN2 : NRH (R.1, tdOn R.2 14) (sI h1 669 62 (hI h1 669 62 ||| ((1 : Int32) <<< (nI 14 &&& 31)))) := ⟨hN1.1, hN1.2.1, hN1.2.2.1, hN1.2.2.2.1, hN1.2.2.2.2.1, td_on (by decide) hN1.2.2.2.2.2⟩
              generalize sI h1 669 62 (hI h1 669 62 ||| ((1 : Int32) <<< (nI 14 &&& 31))) = h2 at ht2 hN2
              refine go ok_X9_readRight ?_
              refine And.intro (fun c => absurd c (by decide)) (fun c => ?_)
              refine go ok_X9_readRight ?_
              refine Cal.z (r_readClothes ht2 hN2 (fun h3 k p e3 hft => ?_) (fun h3 j c2 e3 ht3 hN3 => ?_))
              · rw [e3] at kF
                refine go ok_X9_readRight ?_
                exact kF _ _ _ _ _ rfl hft
              · rw [e3] at kO
                refine go ok_X9_readRight ?_
                exact kO _ _ _ _ _ rfl ht3 hN3
            · rw [if_pos e2] at kF
              refine go ok_X9_readRight ?_
              refine And.intro (fun c => ?_) (fun c => absurd c (by decide))
              exact kF _ _ _ _ _ rfl (ht1.fb ((((OW.rf h1).s (by decide)).s (by decide)).s (by decide)) rfl rfl (by decide))
          · rw [if_neg c5] at kF
            rw [show wAt (gTx S) b wClo = false by simpa using c5]
            refine go ok_X9_readRight ?_
            refine And.intro (fun c => ?_) (fun c => absurd c (by decide))
            refine go ok_X9_readRight ?_
            refine Cal.z (r_want0 ht1.2.2.2.1 (by decide) ?_)
            refine go ok_X9_readRight ?_
            exact kF _ _ _ _ _ rfl (ht1.fb (((OW.rf h1).s (by decide)).s (by decide)) rfl rfl (by decide))
end R20

