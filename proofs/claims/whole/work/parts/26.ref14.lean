/-! ===== the reference: both ways, links ===== -/
section R14
variable {l : Launch} {w : WD} {d : Nat} {h : AH} {Q : Option AV → AH → Prop} {S : SG} {vs : List Nat}
theorem bwR_in {D : List LK} {cl : Int64} {a m b : Int32} : ∀ (i k : Nat), (bwR D cl vs a m b i).1 = some k → ∃ j, j < i ∧ k = gN vs j
  | 0, k, e => by cases e
  | i + 1, k, e => by
    rw [bwR] at e
    split at e
    · dsimp only at e
      cases e2 : (bwR D cl vs a m b i).1 with
      | none =>
        rw [e2] at e
        exact ⟨i, by omega, by simpa using e.symm⟩
      | some f =>
        rw [e2] at e
        obtain ⟨j, hj, hk⟩ := bwR_in i f e2
        exact ⟨j, by omega, by rw [← hk]; simpa using e.symm⟩
    · obtain ⟨j, hj, hk⟩ := bwR_in i k e
      exact ⟨j, by omega, hk⟩
theorem r_isBothWays_loop (hM : RM S h) (hV : VR (gD S) vs h) {p a m b : Int32} (q : Q (some (vi (b2i (bwB (gD S) (gCl S) vs a m b)))) h) : ∀ n i l10, i + n = vs.length →
    Ex l w true mX9_isBothWays (d + 1) Q 20 [some (vr 62), some (vi p), some (vi a), some (vi m), some (vi b), some (vi (oi (bwR (gD S) (gCl S) vs a m b i).1)), some (vi (b2i (bwR (gD S) (gCl S) vs a m b i).2.1)), some (vi (b2i (bwR (gD S) (gCl S) vs a m b i).2.2.1)), some (vi (b2i (bwR (gD S) (gCl S) vs a m b i).2.2.2)), some (vi (nI i)), l10] [] h 0 0 := by
  have hvl := hV.2.2.2
  have hD := hM.m3.2.1
  intro n
  induction n with
  | zero =>
    intro i l10 hi
    have : i = vs.length := by omega
    subst this
    unfold bwB at q
    refine go ok_X9_isBothWays ?_
    refine asAnd ?_
    rw [hV.1]
    refine And.intro (fun c => ?_) (fun c => ?_)
    · refine go ok_X9_isBothWays ?_
      refine And.intro (fun c1 => ?_) (fun c1 => ?_)
      · rw [b2i_eq.mp c1] at q
        refine go ok_X9_isBothWays ?_
        refine And.intro (Or.inl rfl) ?_
        exact q
      · rw [b2i_ne.mp c1] at q
        refine go ok_X9_isBothWays ?_
        refine And.intro (fun c2 => ?_) (fun c2 => ?_)
        · rw [b2i_eq.mp c2] at q
          refine go ok_X9_isBothWays ?_
          refine And.intro (Or.inl rfl) ?_
          exact q
        · rw [b2i_ne.mp c2] at q
          refine go ok_X9_isBothWays ?_
          refine And.intro (fun c3 => ?_) (fun c3 => ?_)
          · rw [b2i_eq.mp c3] at q
            refine go ok_X9_isBothWays ?_
            refine And.intro (Or.inl rfl) ?_
            exact q
          · rw [b2i_ne.mp c3] at q
            refine go ok_X9_isBothWays ?_
            refine And.intro (Or.inr rfl) ?_
            exact q
    · exact absurd (nI_le (Nat.le_refl _) (by omega)) c
  | succ n ih =>
    intro i l10 hi
    have hlt : i < vs.length := by omega
    have hl := hV.2.2.1 i hlt
    have dl := hM.m3.2.2 _ hl
    have el : (nI (gN vs i)).toNatClampNeg = gN vs i := nI_clamp (by omega)
    have ei : (aI h 72).getD (nI i).toNatClampNeg 0 = nI (gN vs i) := by rw [nI_clamp (by omega)]; exact hV.2.1 i hlt
    have hf : ∀ k, (bwR (gD S) (gCl S) vs a m b i).1 = some k → k < (gD S).length := fun k hk => by
      obtain ⟨j, hj, e⟩ := bwR_in i k hk
      rw [e]
      exact hV.2.2.1 j (by omega)
    have hh := fun l10 => ih (i + 1) l10 (by omega)
    simp only [bwR, ← nI_1] at hh
    refine Ex.lay (fun hy => ?_)
    refine go ok_X9_isBothWays ?_
    refine asAnd ?_
    rw [hV.1]
    refine And.intro (fun c => ?_) (fun c => ?_)
    · exact absurd c (nI_ge (by omega) (by omega))
    · refine go ok_X9_isBothWays ?_
      refine And.intro (ix72 hy rfl (by omega)) ?_
      rw [ei]
      refine And.intro (ix65 hy rfl (by omega)) ?_
      refine asCal ?_
      rw [el, dl.2.1]
      refine Cal.z (k_in (lo := a) (hi := b) rfl rfl rfl (fun c => ?_) (fun c => ?_))
      · simp only [if_pos c] at hh
        generalize bwR (gD S) (gCl S) vs a m b i = B at hh hf
        obtain ⟨o, b1, b2, b3⟩ := B
        dsimp only at hh hf ⊢
        -- behind same, first, ahead, behind
        have k143 : ∀ v : Bool, v = (b2 || decide (m < hrD (gD S) (gN vs i))) → Ex l w true mX9_isBothWays (d + 1) Q 143 [some (vr 62), some (vi p), some (vi a), some (vi m), some (vi b), some (vi (oi (o.or (some (gN vs i))))), some (vi (b2i (b1 || decide (hrD (gD S) (gN vs i) ≤ m)))), some (vi (b2i b2)), some (vi (b2i (b3 && !(o.any (fun f => !alk (gD S) (gCl S) f (gN vs i)))))), some (vi (nI i)), some (vi (nI (gN vs i)))] [vi (b2i v)] h 0 0 := by
          intro v hv
          subst hv
          refine go ok_X9_isBothWays ?_
          refine go ok_X9_isBothWays ?_
          exact hh _
        have k120 : ∀ v : Bool, v = (b1 || decide (hrD (gD S) (gN vs i) ≤ m)) → Ex l w true mX9_isBothWays (d + 1) Q 120 [some (vr 62), some (vi p), some (vi a), some (vi m), some (vi b), some (vi (oi (o.or (some (gN vs i))))), some (vi (b2i b1)), some (vi (b2i b2)), some (vi (b2i (b3 && !(o.any (fun f => !alk (gD S) (gCl S) f (gN vs i)))))), some (vi (nI i)), some (vi (nI (gN vs i)))] [vi (b2i v)] h 0 0 := by
          intro v hv
          subst hv
          refine go ok_X9_isBothWays ?_
          refine And.intro (fun c1 => ?_) (fun c1 => ?_)
          · refine go ok_X9_isBothWays ?_
            exact k143 true (by rw [b2i_ne.mp c1]; rfl)
          · refine go ok_X9_isBothWays ?_
            refine And.intro (ix65 hy rfl (by omega)) ?_
            rw [el, dl.2.1]
            refine And.intro (fun c2 => ?_) (fun c2 => ?_)
            · refine go ok_X9_isBothWays ?_
              exact k143 false (by rw [b2i_eq.mp c1, decide_eq_false (by simpa using c2)]; rfl)
            · refine go ok_X9_isBothWays ?_
              exact k143 true (by rw [decide_eq_true (by simpa using c2), Bool.or_true])
        have k97 : ∀ v, v = oi (o.or (some (gN vs i))) → Ex l w true mX9_isBothWays (d + 1) Q 97 [some (vr 62), some (vi p), some (vi a), some (vi m), some (vi b), some (vi (oi o)), some (vi (b2i b1)), some (vi (b2i b2)), some (vi (b2i (b3 && !(o.any (fun f => !alk (gD S) (gCl S) f (gN vs i)))))), some (vi (nI i)), some (vi (nI (gN vs i)))] [vi v] h 0 0 := by
          intro v hv
          subst hv
          refine go ok_X9_isBothWays ?_
          refine And.intro (fun c1 => ?_) (fun c1 => ?_)
          · refine go ok_X9_isBothWays ?_
            exact k120 true (by rw [b2i_ne.mp c1]; rfl)
          · refine go ok_X9_isBothWays ?_
            refine And.intro (ix65 hy rfl (by omega)) ?_
            rw [el, dl.2.1]
            refine And.intro (fun c2 => ?_) (fun c2 => ?_)
            · refine go ok_X9_isBothWays ?_
              exact k120 false (by rw [b2i_eq.mp c1, decide_eq_false (by simpa using c2)]; rfl)
            · refine go ok_X9_isBothWays ?_
              exact k120 true (by rw [decide_eq_true (by simpa using c2), Bool.or_true])
        have k83 : ∀ v : Bool, v = (b3 && !(o.any (fun f => !alk (gD S) (gCl S) f (gN vs i)))) → Ex l w true mX9_isBothWays (d + 1) Q 83 [some (vr 62), some (vi p), some (vi a), some (vi m), some (vi b), some (vi (oi o)), some (vi (b2i b1)), some (vi (b2i b2)), some (vi (b2i b3)), some (vi (nI i)), some (vi (nI (gN vs i)))] [vi (b2i v)] h 0 0 := by
          intro v hv
          subst hv
          cases o with
          | none =>
            refine go ok_X9_isBothWays ?_
            refine And.intro (fun c1 => absurd c1 (by decide)) (fun c1 => ?_)
            refine go ok_X9_isBothWays ?_
            exact k97 _ rfl
          | some f =>
            have hfD := hf f rfl
            refine go ok_X9_isBothWays ?_
            refine And.intro (fun c1 => ?_) (fun c1 => absurd (nI_pos' (by omega)) c1)
            refine go ok_X9_isBothWays ?_
            exact k97 _ rfl
        refine go ok_X9_isBothWays ?_
        refine And.intro (fun c1 => absurd c1 (by decide)) (fun c1 => ?_)
        refine go ok_X9_isBothWays ?_
        refine And.intro (fun c2 => ?_) (fun c2 => ?_)
        · refine go ok_X9_isBothWays ?_
          exact k83 false (by rw [b2i_eq.mp c2]; rfl)
        · have c2' := b2i_ne.mp c2
          subst c2'
          cases o with
          | none =>
            refine go ok_X9_isBothWays ?_
            refine And.intro (fun c3 => ?_) (fun c3 => absurd c3 (by decide))
            refine go ok_X9_isBothWays ?_
            exact k83 true rfl
          | some f =>
            have hfD := hf f rfl
            rw [oi_some] at *
            refine go ok_X9_isBothWays ?_
            refine And.intro (fun c3 => absurd c3 (nI_pos (by omega))) (fun c3 => ?_)
            refine go ok_X9_isBothWays ?_
            refine Cal.z (r_areAlike hM.m3 hM.m5a.1 hfD hl ?_)
            refine go ok_X9_isBothWays ?_
            refine And.intro (fun c4 => ?_) (fun c4 => ?_)
            · refine go ok_X9_isBothWays ?_
              exact k83 false (by simp [b2i_eq.mp c4])
            · refine go ok_X9_isBothWays ?_
              exact k83 true (by simp [b2i_ne.mp c4])
      · simp only [if_neg c] at hh
        refine go ok_X9_isBothWays ?_
        refine And.intro (fun c1 => ?_) (fun c1 => absurd c1 (by decide))
        refine go ok_X9_isBothWays ?_
        exact hh _
theorem r_isBothWays (hM : RM S h) {p : Nat} (hp : p < 2 ^ 31) {a m b : Int32} (q : ∀ h', RM S h' → OM h h' → Q (some (vi (b2i (bwB (gD S) (gCl S) (vws (gD S) p) a m b)))) h') : Con l w true (d + 4) HX9_isBothWays [vr 62, vi (nI p), vi a, vi m, vi b] h 0 0 Q := by
  refine Con.of ok_X9_isBothWays (nones := [none, none, none, none, none, none]) rfl (by simp) ?_
  refine go ok_X9_isBothWays ?_
  refine Cal.z (r_fv hM hp (fun h' hM' ho hV => ?_))
  refine go ok_X9_isBothWays ?_
  exact r_isBothWays_loop hM' hV (q h' hM' ho) (vws (gD S) p).length 0 _ (by omega)
theorem bwAll_false {st a m b : Int32} {i : Nat} (e : bwAll S st a m b i = false) : ∀ n, bwAll S st a m b (i + n) = false
  | 0 => e
  | n + 1 => by rw [← Nat.add_assoc, bwAll, bwAll_false e n, Bool.false_and]
theorem r_bothWays_in (hp : (gDs S).length ≤ 12) {st a m b : Int32} (q : ∀ l6 h', RM S h' → OM h h' → Ex l w true mX9_bothWays (d + 5) Q 108 [some (vr 62), some (vi st), some (vi a), some (vi b), some (vi m), some (vi (b2i (bwAll S st a m b (gDs S).length))), l6] [] h' 0 0) : ∀ n i h', i + n = (gDs S).length → RM S h' → OM h h' →
    Ex l w true mX9_bothWays (d + 5) Q 59 [some (vr 62), some (vi st), some (vi a), some (vi b), some (vi m), some (vi (b2i (bwAll S st a m b i))), some (vi (nI i))] [] h' 0 0 := by
  intro n
  induction n with
  | zero =>
    intro i h' hi hM ho
    have : i = (gDs S).length := by omega
    subst this
    refine go ok_X9_bothWays ?_
    refine asAnd ?_
    rw [hM.m2.1]
    refine And.intro (fun c => ?_) (fun c => ?_)
    · exact q _ h' hM ho
    · exact absurd (nI_le (Nat.le_refl _) (by omega)) c
  | succ n ih =>
    intro i h' hi hM ho
    have k100 : ∀ (v : Bool) h2, RM S h2 → OM h h2 → v = bwAll S st a m b (i + 1) → Ex l w true mX9_bothWays (d + 5) Q 100 [some (vr 62), some (vi st), some (vi a), some (vi b), some (vi m), some (vi (b2i (bwAll S st a m b i))), some (vi (nI i))] [vi (b2i v)] h2 0 0 := by
      intro v h2 hM2 ho2 hv
      have hh := ih (i + 1) h2 (by omega) hM2 ho2
      rw [← hv, ← nI_1] at hh
      refine go ok_X9_bothWays ?_
      exact hh
    rw [bwAll] at k100
    refine go ok_X9_bothWays ?_
    refine asAnd ?_
    rw [hM.m2.1]
    refine And.intro (fun c => ?_) (fun c => ?_)
    · exact absurd c (nI_ge (by omega) (by omega))
    · refine go ok_X9_bothWays ?_
      refine And.intro (fun c2 => ?_) (fun c2 => ?_)
      · have e := bwAll_false (b2i_eq.mp c2) (n + 1)
        rw [hi] at e
        rw [b2i_eq.mp c2]
        rw [e] at q
        exact q _ h' hM ho
      · rw [b2i_ne.mp c2] at k100 ⊢
        rw [Bool.true_and] at k100
        refine go ok_X9_bothWays ?_
        refine And.intro (fun c3 => ?_) (fun c3 => ?_)
        · refine go ok_X9_bothWays ?_
          exact k100 true h' hM ho (by rw [decide_eq_true c3]; rfl)
        · refine go ok_X9_bothWays ?_
          refine Cal.z (r_isBothWays hM (by omega) (fun h2 hM2 ho2 => ?_))
          rw [decide_eq_false c3, Bool.false_or] at k100
          refine go ok_X9_bothWays ?_
          refine And.intro (fun c4 => ?_) (fun c4 => ?_)
          · refine go ok_X9_bothWays ?_
            exact k100 false h2 hM2 (ho.tr ho2) (b2i_eq.mp c4).symm
          · refine go ok_X9_bothWays ?_
            exact k100 true h2 hM2 (ho.tr ho2) (b2i_ne.mp c4).symm
theorem r_bothWays_out (hp : (gDs S).length ≤ 12) {st : Int32} {a b : Nat} (hb : b ≤ 3000) : ∀ n m l5 l6 h', m + n = b + 1 → RM S h' → OM h h' → (∀ h', RM S h' → OM h h' → Q (some (vi (bwS S st (nI a) (nI b) n (nI m)))) h') →
    Ex l w true mX9_bothWays (d + 5) Q 47 [some (vr 62), some (vi st), some (vi (nI a)), some (vi (nI b)), some (vi (nI m)), l5, l6] [] h' 0 0 := by
  intro n
  induction n with
  | zero =>
    intro m l5 l6 h' hi hM ho q
    refine go ok_X9_bothWays ?_
    refine asAnd ?_
    rw [nI_ltI (by omega) (by omega)]
    refine And.intro (fun c => ?_) (fun c => ?_)
    · refine go ok_X9_bothWays ?_
      exact q h' hM ho
    · omega
  | succ n ih =>
    intro m l5 l6 h' hi hM ho q
    refine go ok_X9_bothWays ?_
    refine asAnd ?_
    rw [nI_ltI (by omega) (by omega)]
    refine And.intro (fun c => ?_) (fun c => ?_)
    · omega
    · refine go ok_X9_bothWays ?_
      refine r_bothWays_in hp (fun l6 h2 hM2 ho2 => ?_) (gDs S).length 0 h' (by omega) hM ho
      rw [bwS] at q
      refine go ok_X9_bothWays ?_
      refine And.intro (fun c2 => ?_) (fun c2 => ?_)
      · rw [if_neg (by rw [b2i_eq.mp c2]; decide), nI_1] at q
        have hh := fun l5 l6 => ih (m + 1) l5 l6 h2 (by omega) hM2 ho2 q
        simp only [← nI_1] at hh
        refine go ok_X9_bothWays ?_
        exact hh _ _
      · rw [if_pos (b2i_ne.mp c2)] at q
        refine go ok_X9_bothWays ?_
        exact q _ hM2 ho2
theorem r_bothWays (hM : RM S h) (hv : Inv S) {st a b : Int32} (q : ∀ h', RM S h' → OM h h' → Q (some (vi (bothWaysA S st a b))) h') : Con l w true (d + 5) HX9_bothWays [vr 62, vi st, vi a, vi b] h 0 0 Q := by
  have h12 := hM.m2.2.1
  refine Con.of ok_X9_bothWays (nones := [none, none, none]) rfl (by simp) ?_
  have k13 : ¬ pgSet S st → Ex l w true mX9_bothWays (d + 5) Q 13 [some (vr 62), some (vi st), some (vi a), some (vi b), none, none, none] [] h 0 0 := by
    intro c
    rw [bothWaysA, if_neg c] at q
    refine go ok_X9_bothWays ?_
    exact q _ hM (OM.rf h)
  refine go ok_X9_bothWays ?_
  refine And.intro (fun c => ?_) (fun c => ?_)
  · exact k13 (fun z => absurd z.1 (by simpa using c))
  · refine go ok_X9_bothWays ?_
    refine asAnd ?_
    rw [hM.m2.1]
    refine And.intro (fun c2 => ?_) (fun c2 => ?_)
    · rw [bothWaysA, if_pos ⟨by simpa using c, c2⟩] at q
      have k40 : ¬ ((0 ≤ a ∧ a ≤ gNw S) ∧ (a ≤ b ∧ b ≤ gNw S)) → Ex l w true mX9_bothWays (d + 5) Q 40 [some (vr 62), some (vi st), some (vi a), some (vi b), none, none, none] [] h 0 0 := by
        intro c
        rw [if_neg c] at q
        refine go ok_X9_bothWays ?_
        exact q _ hM (OM.rf h)
      refine go ok_X9_bothWays ?_
      refine Cal.z (k_isTime hM.1 (fun c3 => ?_) (fun c3 => ?_))
      · refine go ok_X9_bothWays ?_
        refine And.intro (fun c4 => absurd c4 (by decide)) (fun c4 => ?_)
        refine go ok_X9_bothWays ?_
        refine Cal.z (k_in (lo := a) (hi := gNw S) rfl rfl (by rw [hM.1]) (fun c5 => ?_) (fun c5 => ?_))
        · rw [if_pos ⟨c3, c5⟩] at q
          obtain ⟨n0, hn0, en0⟩ := hv.now
          rw [en0] at c3 c5
          obtain ⟨a', ha', rfl⟩ := natOf (by omega) c3.1 c3.2
          have hb0 : (0 : Int32) ≤ b := by have h1 := c3.1; have h2 := c5.1; rw [Int32.le_iff_toInt_le] at *; omega
          obtain ⟨b', hb', rfl⟩ := natOf (by omega) hb0 c5.2
          have hab := c5.1
          rw [nI_leI (by omega) (by omega)] at hab
          rw [i32_sub_nI hab, nI_1, nI_clamp (by omega)] at q
          refine go ok_X9_bothWays ?_
          refine And.intro (fun c6 => ?_) (fun c6 => absurd c6 (by decide))
          refine go ok_X9_bothWays ?_
          exact r_bothWays_out h12 (by omega) (b' - a' + 1) a' _ _ h (by omega) hM (OM.rf h) q
        · refine go ok_X9_bothWays ?_
          refine And.intro (fun c4 => absurd c4 (by decide)) (fun c4 => ?_)
          exact k40 (fun z => c5 z.2)
      · refine go ok_X9_bothWays ?_
        refine And.intro (fun c4 => ?_) (fun c4 => absurd c4 (by decide))
        exact k40 (fun z => c3 z.1)
    · exact k13 (fun z => c2 z.2)
end R14

