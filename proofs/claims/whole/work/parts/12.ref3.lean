/-! ===== the reference: what it was ===== -/
def fromD (D : List LK) (l : Nat) : Int32 := if dtD D l < 0 then hrD D l else dtD D l
def pairB (D : List LK) (cl : Int64) (pt : Int32) (vs : List Nat) (i : Nat) : Bool := decide (i + 1 < vs.length) && (alk D cl (gN vs i) (gN vs (i + 1)) && decide (hrD D (gN vs (i + 1)) - hrD D (gN vs i) ≤ pt))
def clm (D : List LK) (cl : Int64) (pt : Int32) (vs : List Nat) (t : Int32) (i : Nat) : Bool :=
  (decide (fromD D (gN vs i) ≤ t) && decide (t ≤ hrD D (gN vs i))) || (pairB D cl pt vs i && (decide (hrD D (gN vs i) + 1 ≤ t) && decide (t ≤ hrD D (gN vs (i + 1)) - 1)))
/-- the row of views stands -/
def VR (D : List LK) (vs : List Nat) (h : AH) : Prop := hI h 656 62 = nI vs.length ∧ rowIs (aI h 72) vs ∧ (∀ i, i < vs.length → gN vs i < D.length) ∧ vs.length ≤ 100
/-- rights, as far as what it was asks -/
def M5a (cl : Int64) (pt : Int32) (h : AH) : Prop := hL h 654 62 = cl ∧ hI h 653 62 = pt
section R3
variable {l : Launch} {w : WD} {d : Nat} {h : AH} {Q : Option AV → AH → Prop} {D : List LK} {cl : Int64} {pt : Int32} {vs : List Nat}
theorem r_claims (hM : M3 D h) (hP : M5a cl pt h) (hV : VR D vs h) {i : Nat} (hi : i < vs.length) {t : Int32} (q : Q (some (vi (b2i (clm D cl pt vs t i)))) h) : Con l w true (d + 1) HX9_claims [vr 62, vi (nI i), vi t] h 0 0 Q := by
  have hD := hM.2.1
  have hvl := hV.2.2.2
  have hi1 : i < 100 := Nat.lt_of_lt_of_le hi hV.2.2.2
  have hl := hV.2.2.1 i hi
  have hr := hV.2.1 i hi
  have ei : (nI i).toNatClampNeg = i := nI_clamp (by omega)
  have dl := hM.2.2 _ hl
  have hl1 : gN vs i < 100 := by omega
  have el : (nI (gN vs i)).toNatClampNeg = gN vs i := nI_clamp (by omega)
  refine Con.of ok_X9_claims (nones := [none, none, none]) rfl (by simp) ?_
  refine Ex.lay (fun hy => ?_)
  refine go ok_X9_claims ?_
  refine And.intro (ix72 hy rfl hi1) ?_
  have ej : (aI h 72).getD (nI i).toNatClampNeg 0 = nI (gN vs i) := by rw [ei]; exact hr
  refine And.intro (ix68 hy ej hl1) ?_
  -- behind the store of 'from'
  have k31 : ∀ fr, fr = fromD D (gN vs i) → Ex l w true mX9_claims (d + 1) Q 31 [some (vr 62), some (vi (nI i)), some (vi t), some (vi (nI (gN vs i))), none, none] [vi fr] h 0 0 := by
    intro fr hfr
    -- behind the store of 'pair'
    have k91 : ∀ pb : Bool, pb = pairB D cl pt vs i → Ex l w true mX9_claims (d + 1) Q 91 [some (vr 62), some (vi (nI i)), some (vi t), some (vi (nI (gN vs i))), some (vi fr), none] [vi (b2i pb)] h 0 0 := by
      intro pb hpb
      refine go ok_X9_claims ?_
      refine And.intro (ix65 hy rfl hl1) ?_
      refine Cal.z (r_inI ?_)
      rw [el, dl.2.1]
      refine go ok_X9_claims ?_
      refine And.intro (fun c => ?_) (fun c => ?_)
      · have c1 := b2i_ne.mp c
        refine go ok_X9_claims ?_
        refine And.intro (Or.inr rfl) ?_
        rw [hfr] at c1
        rw [clm, c1] at q
        exact q
      · have c1 := b2i_eq.mp c
        rw [hfr] at c1
        rw [clm, c1, ← hpb, Bool.false_or] at q
        refine go ok_X9_claims ?_
        refine And.intro (fun c2 => ?_) (fun c2 => ?_)
        · have c3 := b2i_eq.mp c2
          refine go ok_X9_claims ?_
          refine And.intro (Or.inl rfl) ?_
          rw [c3] at q
          exact q
        · have c3 := b2i_ne.mp c2
          rw [c3, Bool.true_and] at q
          have hi2 : i + 1 < vs.length := by
            rw [hpb] at c3
            unfold pairB at c3
            simp at c3
            exact c3.1
          have hn1 := hV.2.2.1 (i + 1) hi2
          have en : (aI h 72).getD (nI i + 1).toNatClampNeg 0 = nI (gN vs (i + 1)) := by
            rw [nI_1, nI_clamp (by omega)]
            exact hV.2.1 (i + 1) hi2
          have dn := hM.2.2 _ hn1
          refine go ok_X9_claims ?_
          refine And.intro (ix65 hy rfl hl1) (And.intro (ix72 hy (nI_1 i) (by omega)) (And.intro (ix65 hy en (by omega)) ?_))
          refine Cal.z (r_inI ?_)
          rw [el, dl.2.1, en, nI_clamp (by omega), dn.2.1]
          refine go ok_X9_claims ?_
          refine And.intro (fun c4 => ?_) (fun c4 => ?_)
          · refine go ok_X9_claims ?_
            refine And.intro (Or.inl rfl) ?_
            rw [b2i_eq.mp c4] at q
            exact q
          · refine go ok_X9_claims ?_
            refine And.intro (Or.inr rfl) ?_
            rw [b2i_ne.mp c4] at q
            exact q
    refine go ok_X9_claims ?_
    refine And.intro (fun c => ?_) (fun c => ?_)
    · -- no next one
      refine go ok_X9_claims ?_
      refine (k91 false ?_)
      replace c : hI h 656 62 ≤ nI i + 1 := c
      rw [hV.1, nI_1, nI_leI (by omega) (by omega)] at c
      unfold pairB
      rw [decide_eq_false (by omega)]
      rfl
    · replace c : ¬ hI h 656 62 ≤ nI i + 1 := c
      rw [hV.1, nI_1, nI_leI (by omega) (by omega)] at c
      have hi2 : i + 1 < vs.length := by omega
      have hn1 := hV.2.2.1 (i + 1) hi2
      have en : (aI h 72).getD (nI i + 1).toNatClampNeg 0 = nI (gN vs (i + 1)) := by
        rw [nI_1, nI_clamp (by omega)]
        exact hV.2.1 (i + 1) hi2
      have dn := hM.2.2 _ hn1
      refine go ok_X9_claims ?_
      refine And.intro (ix72 hy (nI_1 i) (by omega)) ?_
      rw [en]
      refine Cal.z (r_areAlike hM hP.1 hl hn1 ?_)
      refine go ok_X9_claims ?_
      refine And.intro (fun c2 => ?_) (fun c2 => ?_)
      · refine go ok_X9_claims ?_
        refine k91 false ?_
        unfold pairB
        rw [b2i_eq.mp c2]
        simp
      · have c3 := b2i_ne.mp c2
        refine go ok_X9_claims ?_
        refine And.intro (ix72 hy (nI_1 i) (by omega)) (And.intro (ix65 hy en (by omega)) (And.intro (ix65 hy rfl hl1) ?_))
        have en2 : (nI (gN vs (i + 1))).toNatClampNeg = gN vs (i + 1) := nI_clamp (by omega)
        rw [en, en2, dn.2.1, el, dl.2.1]
        refine And.intro (fun c4 => ?_) (fun c4 => ?_)
        · refine go ok_X9_claims ?_
          refine k91 false ?_
          have : hI h 653 62 < _ := c4
          rw [hP.2] at this
          unfold pairB
          have : decide (hrD D (gN vs (i + 1)) - hrD D (gN vs i) ≤ pt) = false := by simpa using this
          rw [this]
          simp
        · refine go ok_X9_claims ?_
          refine k91 true ?_
          have : ¬ hI h 653 62 < _ := c4
          rw [hP.2] at this
          unfold pairB
          have e2 : decide (hrD D (gN vs (i + 1)) - hrD D (gN vs i) ≤ pt) = true := by simpa using this
          rw [e2, c3, decide_eq_true hi2]
          rfl
  rw [ej, el, dl.2.2.2.2.1]
  refine And.intro (fun c => ?_) (fun c => ?_)
  · refine go ok_X9_claims ?_
    refine And.intro (ix68 hy rfl hl1) ?_
    rw [el, dl.2.2.2.2.1]
    refine k31 _ ?_
    unfold fromD
    rw [if_neg (by simpa using c)]
  · refine go ok_X9_claims ?_
    refine And.intro (ix65 hy rfl hl1) ?_
    rw [el, dl.2.1]
    refine k31 _ ?_
    unfold fromD
    rw [if_pos (by simpa using c)]
end R3

