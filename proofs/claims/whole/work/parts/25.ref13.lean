/-! ===== the reference: first, nowhere, moved, shown ===== -/
theorem oi_some (k : Nat) : oi (some k) = nI k := rfl
section R13
variable {l : Launch} {w : WD} {d : Nat} {h : AH} {Q : Option AV → AH → Prop} {S : SG} {vs : List Nat}
theorem fwO_lt {D : List LK} {pc : Int32} : ∀ (n i : Nat), fwO D pc vs n = some i → i < n ∧ hasB D pc (gN vs i) = true
  | 0, i, e => by cases e
  | n + 1, i, e => by
    rw [fwO] at e
    cases e2 : fwO D pc vs n with
    | some j =>
      rw [e2] at e
      have := fwO_lt n j e2
      injection e with e
      subst e
      exact ⟨by omega, this.2⟩
    | none =>
      rw [e2] at e
      by_cases c : hasB D pc (gN vs n) = true
      · rw [if_pos c] at e
        injection e with e
        subst e
        exact ⟨by omega, c⟩
      · rw [if_neg c] at e; cases e
theorem r_first_loop1 (hp : (gDs S).length ≤ 12) {pc : Int32} (q : ∀ l4 h', RM S h' → OM h h' → Ex l w true mX9_first (d + 5) Q 70 [some (vr 62), some (vi pc), some (vi (leaR S pc (gDs S).length)), some (vi (nI (gDs S).length)), l4, none] [] h' 0 0) : ∀ n i l4 h', i + n = (gDs S).length → RM S h' → OM h h' →
    Ex l w true mX9_first (d + 5) Q 22 [some (vr 62), some (vi pc), some (vi (leaR S pc i)), some (vi (nI i)), l4, none] [] h' 0 0 := by
  intro n
  induction n with
  | zero =>
    intro i l4 h' hi hM ho
    have : i = (gDs S).length := by omega
    subst this
    refine go ok_X9_first ?_
    refine asAnd ?_
    rw [hM.m2.1]
    refine And.intro (fun c => ?_) (fun c => ?_)
    · exact q l4 h' hM ho
    · exact absurd (nI_le (Nat.le_refl _) (by omega)) c
  | succ n ih =>
    intro i l4 h' hi hM ho
    refine go ok_X9_first ?_
    refine asAnd ?_
    rw [hM.m2.1]
    refine And.intro (fun c => ?_) (fun c => ?_)
    · exact absurd c (nI_ge (by omega) (by omega))
    · refine go ok_X9_first ?_
      refine Cal.z (r_firstWith hM (by omega) (fun h2 hM2 ho2 hV => ?_))
      have k63 : ∀ v l4, v = leaR S pc (i + 1) → Ex l w true mX9_first (d + 5) Q 63 [some (vr 62), some (vi pc), some (vi (leaR S pc i)), some (vi (nI i)), l4, none] [vi v] h2 0 0 := by
        intro v l4 hv
        have hh := ih (i + 1) l4 h2 (by omega) hM2 (ho.tr ho2)
        rw [← hv, ← nI_1] at hh
        refine go ok_X9_first ?_
        exact hh
      have k62 : ∀ l4, leaR S pc i = leaR S pc (i + 1) → Ex l w true mX9_first (d + 5) Q 62 [some (vr 62), some (vi pc), some (vi (leaR S pc i)), some (vi (nI i)), l4, none] [] h2 0 0 := by
        intro l4 hv
        refine go ok_X9_first ?_
        exact k63 _ l4 hv
      rw [leaR] at k62 k63
      cases e : fwP S pc i with
      | none =>
        rw [e] at k62 k63
        refine go ok_X9_first ?_
        refine And.intro (fun c2 => ?_) (fun c2 => absurd c2 (by decide))
        exact k62 _ rfl
      | some j =>
        rw [e] at k62 k63
        dsimp only at k62 k63
        have hj := (fwO_lt _ j e).1
        have hvl := hV.2.2.2
        refine go ok_X9_first ?_
        refine And.intro (fun c2 => absurd c2 (nI_pos (by omega))) (fun c2 => ?_)
        refine go ok_X9_first ?_
        refine Cal.z (r_latestBy hM2 hV hj ?_)
        refine go ok_X9_first ?_
        refine And.intro (fun c3 => ?_) (fun c3 => ?_)
        · refine k62 _ ?_
          rw [if_neg (by simpa using c3)]
        · refine go ok_X9_first ?_
          refine Cal.z (r_latestBy hM2 hV hj ?_)
          refine go ok_X9_first ?_
          refine k63 _ _ ?_
          rw [if_pos (by simpa using c3)]
theorem r_first_loop2 (hp : (gDs S).length ≤ 12) {pc le : Int32} (q : ∀ h', RM S h' → OM h h' → Q (some (vi (fstR S pc le (gDs S).length))) h') : ∀ n i l5 h', i + n = (gDs S).length → RM S h' → OM h h' →
    Ex l w true mX9_first (d + 5) Q 75 [some (vr 62), some (vi pc), some (vi le), some (vi (fstR S pc le i)), some (vi (nI i)), l5] [] h' 0 0 := by
  intro n
  induction n with
  | zero =>
    intro i l5 h' hi hM ho
    have : i = (gDs S).length := by omega
    subst this
    refine go ok_X9_first ?_
    refine asAnd ?_
    rw [hM.m2.1]
    refine And.intro (fun c => ?_) (fun c => ?_)
    · refine go ok_X9_first ?_
      exact q h' hM ho
    · exact absurd (nI_le (Nat.le_refl _) (by omega)) c
  | succ n ih =>
    intro i l5 h' hi hM ho
    refine go ok_X9_first ?_
    refine asAnd ?_
    rw [hM.m2.1]
    refine And.intro (fun c => ?_) (fun c => ?_)
    · exact absurd c (nI_ge (by omega) (by omega))
    · refine go ok_X9_first ?_
      refine Cal.z (r_firstWith hM (by omega) (fun h2 hM2 ho2 hV => ?_))
      have hh := fun l5 => ih (i + 1) l5 h2 (by omega) hM2 (ho.tr ho2)
      simp only [fstR, fstB, ← nI_1] at hh
      cases e : fwP S pc i with
      | none =>
        simp only [e] at hh
        refine go ok_X9_first ?_
        refine And.intro (fun c2 => ?_) (fun c2 => absurd c2 (by decide))
        refine go ok_X9_first ?_
        refine Cal.z (r_one (b := false) ?_)
        refine go ok_X9_first ?_
        exact hh _
      | some j =>
        simp only [e] at hh
        have hj := (fwO_lt _ j e).1
        have hvl := hV.2.2.2
        refine go ok_X9_first ?_
        refine And.intro (fun c2 => absurd c2 (nI_pos (by omega))) (fun c2 => ?_)
        refine go ok_X9_first ?_
        refine Cal.z (r_earliestBy hM2 hV hj ?_)
        refine go ok_X9_first ?_
        refine And.intro (fun c3 => ?_) (fun c3 => ?_)
        · simp only [decide_eq_false (show ¬ erlD (gD S) (vws (gD S) i) j ≤ le by simpa using c3)] at hh
          refine go ok_X9_first ?_
          refine Cal.z (r_one (b := false) ?_)
          refine go ok_X9_first ?_
          exact hh _
        · simp only [decide_eq_true (show erlD (gD S) (vws (gD S) i) j ≤ le by simpa using c3)] at hh
          refine go ok_X9_first ?_
          refine Cal.z (r_one (b := true) ?_)
          refine go ok_X9_first ?_
          exact hh _
theorem r_first (hM : RM S h) {pc : Int32} (q : ∀ h', RM S h' → OM h h' → Q (some (vi (firstA S pc))) h') : Con l w true (d + 5) HX9_first [vr 62, vi pc] h 0 0 Q := by
  have h12 := hM.m2.2.1
  refine Con.of ok_X9_first (nones := [none, none, none, none]) rfl (by simp) ?_
  refine go ok_X9_first ?_
  refine Cal.z (k_in (lo := 0) (hi := 59) rfl rfl (rfl) (fun c => ?_) (fun c => ?_))
  · rw [firstA, if_pos c] at q
    refine go ok_X9_first ?_
    refine And.intro (fun c2 => ?_) (fun c2 => absurd c2 (by decide))
    refine go ok_X9_first ?_
    refine r_first_loop1 h12 (fun l4 h' hM' ho => ?_) (gDs S).length 0 none h (by omega) hM (OM.rf h)
    refine go ok_X9_first ?_
    exact r_first_loop2 h12 q (gDs S).length 0 _ h' (by omega) hM' ho
  · rw [firstA, if_neg c] at q
    refine go ok_X9_first ?_
    refine And.intro (fun c2 => absurd c2 (by decide)) (fun c2 => ?_)
    refine go ok_X9_first ?_
    exact q _ hM (OM.rf h)
theorem r_nowhere (hM : RM S h) (q : ∀ h', RM S h' → OM h h' → Q (some (vl (nowhereA S))) h') : Con l w true (d + 5) HX9_nowhere [vr 62] h 0 0 Q := by
  have h12 := hM.m2.2.1
  have lp : ∀ n i l4 h', i + n = (gDs S).length → RM S h' → OM h h' → Ex l w true mX9_nowhere (d + 5) Q 7 [some (vr 62), some (vl (nowR S i)), none, some (vi (nI i)), l4] [] h' 0 0 := by
    intro n
    induction n with
    | zero =>
      intro i l4 h' hi hM ho
      have : i = (gDs S).length := by omega
      subst this
      refine go ok_X9_nowhere ?_
      refine asAnd ?_
      rw [hM.m2.1]
      refine And.intro (fun c => ?_) (fun c => ?_)
      · refine go ok_X9_nowhere ?_
        exact q h' hM ho
      · exact absurd (nI_le (Nat.le_refl _) (by omega)) c
    | succ n ih =>
      intro i l4 h' hi hM ho
      refine go ok_X9_nowhere ?_
      refine asAnd ?_
      rw [hM.m2.1]
      refine And.intro (fun c => ?_) (fun c => ?_)
      · exact absurd c (nI_ge (by omega) (by omega))
      · refine go ok_X9_nowhere ?_
        refine Cal.z (r_lastView hM (by omega) (fun h2 hM2 ho2 hV => ?_))
        have hh := fun l4 => ih (i + 1) l4 h2 (by omega) hM2 (ho.tr ho2)
        simp only [nowR, ← nI_1] at hh
        cases e : lstL (vws (gD S) i) with
        | none =>
          simp only [e] at hh
          refine go ok_X9_nowhere ?_
          refine And.intro (fun c2 => absurd c2 (by decide)) (fun c2 => ?_)
          refine go ok_X9_nowhere ?_
          exact hh _
        | some j =>
          simp only [e] at hh
          have hj := (lstL_in hV e).1
          have hD := hM2.m3.2.1
          rw [oi_some]
          refine Ex.lay (fun hy => ?_)
          refine go ok_X9_nowhere ?_
          refine And.intro (fun c2 => ?_) (fun c2 => absurd (nI_pos' (by omega)) c2)
          refine go ok_X9_nowhere ?_
          refine And.intro (ix67 hy rfl (by omega)) ?_
          rw [nI_clamp (by omega), (hM2.m3.2.2 j hj).2.2.2.1]
          exact hh _
  refine Con.of ok_X9_nowhere (nones := [none, none, none, none]) rfl (by simp) ?_
  refine go ok_X9_nowhere ?_
  refine Cal.z (r_allPieces hM.m3 ?_)
  refine go ok_X9_nowhere ?_
  exact lp (gDs S).length 0 _ h (by omega) hM (OM.rf h)
theorem seenR_in {D : List LK} : ∀ (i k : Nat), seenR D vs i = some k → ∃ j, j < i ∧ k = gN vs j ∧ kdD D k = 0
  | 0, k, e => by cases e
  | i + 1, k, e => by
    rw [seenR] at e
    split at e
    · injection e with e
      subst e
      exact ⟨i, by omega, rfl, by assumption⟩
    · obtain ⟨j, hj, a, b⟩ := seenR_in i k e
      exact ⟨j, by omega, a, b⟩
theorem r_moved_loop1 (hM : RM S h) (hV : VR (gD S) vs h) {p lv : Int32} (q : Ex l w true mX9_moved d Q 81 [some (vr 62), some (vi p), some (vi lv), some (vi (oi (seenR (gD S) vs vs.length))), some (vi (nI vs.length)), none, none, none, none] [] h 0 0) : ∀ n i, i + n = vs.length →
    Ex l w true mX9_moved d Q 39 [some (vr 62), some (vi p), some (vi lv), some (vi (oi (seenR (gD S) vs i))), some (vi (nI i)), none, none, none, none] [] h 0 0 := by
  have hvl := hV.2.2.2
  have hD := hM.m3.2.1
  intro n
  induction n with
  | zero =>
    intro i hi
    have : i = vs.length := by omega
    subst this
    refine go ok_X9_moved ?_
    refine asAnd ?_
    rw [hV.1]
    refine And.intro (fun c => ?_) (fun c => ?_)
    · exact q
    · exact absurd (nI_le (Nat.le_refl _) (by omega)) c
  | succ n ih =>
    intro i hi
    have hh := ih (i + 1) (by omega)
    rw [seenR, ← nI_1] at hh
    have hl := hV.2.2.1 i (by omega)
    have ei : (aI h 72).getD (nI i).toNatClampNeg 0 = nI (gN vs i) := by rw [nI_clamp (by omega)]; exact hV.2.1 i (by omega)
    refine Ex.lay (fun hy => ?_)
    refine go ok_X9_moved ?_
    refine asAnd ?_
    rw [hV.1]
    refine And.intro (fun c => ?_) (fun c => ?_)
    · exact absurd c (nI_ge (by omega) (by omega))
    · refine go ok_X9_moved ?_
      refine And.intro (ix72 hy rfl (by omega)) ?_
      rw [ei]
      refine And.intro (ix66 hy rfl (by omega)) ?_
      rw [nI_clamp (by omega), (hM.m3.2.2 _ hl).2.2.1]
      refine And.intro (fun c2 => ?_) (fun c2 => ?_)
      · rw [if_neg c2] at hh
        refine go ok_X9_moved ?_
        refine go ok_X9_moved ?_
        exact hh
      · rw [if_pos c2] at hh
        refine go ok_X9_moved ?_
        refine And.intro (ix72 hy rfl (by omega)) ?_
        rw [ei]
        refine go ok_X9_moved ?_
        exact hh
theorem r_moved_loop2 (hp : (gDs S).length ≤ 12) {p f : Nat} (hpp : p < 12) (hf : f < (gD S).length) {lv : Int32} (q : ∀ h', RM S h' → OM h h' → Q (some (vi (mvR S p f (gDs S).length).1)) h') : ∀ n i l7 l8 h', i + n = (gDs S).length → RM S h' → OM h h' →
    Ex l w true mX9_moved (d + 5) Q 91 [some (vr 62), some (vi (nI p)), some (vi lv), some (vi (nI f)), some (vi (mvR S p f i).1), some (vi (mvR S p f i).2), some (vi (nI i)), l7, l8] [] h' 0 0 := by
  intro n
  induction n with
  | zero =>
    intro i l7 l8 h' hi hM ho
    have : i = (gDs S).length := by omega
    subst this
    refine go ok_X9_moved ?_
    refine asAnd ?_
    rw [hM.m2.1]
    refine And.intro (fun c => ?_) (fun c => ?_)
    · refine go ok_X9_moved ?_
      exact q h' hM ho
    · exact absurd (nI_le (Nat.le_refl _) (by omega)) c
  | succ n ih =>
    intro i l7 l8 h' hi hM ho
    have hD := hM.m3.2.1
    -- behind v
    have k148 : ∀ v (l7 : Int32) l8 h2, RM S h2 → OM h h2 → v = mvV S p f i → Ex l w true mX9_moved (d + 5) Q 148 [some (vr 62), some (vi (nI p)), some (vi lv), some (vi (nI f)), some (vi (mvR S p f i).1), some (vi (mvR S p f i).2), some (vi (nI i)), some (vi l7), l8] [vi v] h2 0 0 := by
      intro v l7 l8 h2 hM2 ho2 hv
      have hh := fun l7 l8 => ih (i + 1) l7 l8 h2 (by omega) hM2 ho2
      simp only [mvR, ← hv, ← nI_1] at hh
      refine go ok_X9_moved ?_
      refine And.intro (fun c => ?_) (fun c => ?_)
      · rw [if_neg (by simpa using c)] at hh
        refine go ok_X9_moved ?_
        refine go ok_X9_moved ?_
        refine And.intro (fun c2 => ?_) (fun c2 => absurd c c2)
        refine go ok_X9_moved ?_
        refine go ok_X9_moved ?_
        exact hh _ _
      · rw [if_pos (by simpa using c)] at hh
        refine go ok_X9_moved ?_
        refine go ok_X9_moved ?_
        refine And.intro (fun c2 => absurd c2 c) (fun c2 => ?_)
        refine go ok_X9_moved ?_
        refine go ok_X9_moved ?_
        exact hh _ _
    have k120 : ∀ (o : Option Nat) l7 l8 h2, RM S h2 → OM h h2 → (∀ k, o = some k → k < (gD S).length) → (match o with | none => 0 | some l => if kdD (gD S) l = 0 then lkn (gD S) (gCl S) f l else 0) = mvV S p f i → Ex l w true mX9_moved (d + 5) Q 120 [some (vr 62), some (vi (nI p)), some (vi lv), some (vi (nI f)), some (vi (mvR S p f i).1), some (vi (mvR S p f i).2), some (vi (nI i)), l7, l8] [vi (oi o)] h2 0 0 := by
      intro o l7 l8 h2 hM2 ho2 hok hv
      cases o with
      | none =>
        refine go ok_X9_moved ?_
        refine And.intro (fun c => ?_) (fun c => absurd c (by decide))
        refine go ok_X9_moved ?_
        exact k148 _ _ _ h2 hM2 ho2 hv
      | some k =>
        have hk := hok k rfl
        dsimp only at hv
        rw [oi_some]
        refine Ex.lay (fun hy => ?_)
        refine go ok_X9_moved ?_
        refine And.intro (fun c2 => absurd c2 (nI_pos (by omega))) (fun c2 => ?_)
        refine go ok_X9_moved ?_
        refine And.intro (ix66 hy rfl (by omega)) ?_
        rw [nI_clamp (by omega), (hM2.m3.2.2 _ hk).2.2.1]
        refine And.intro (fun c3 => ?_) (fun c3 => ?_)
        · rw [if_neg c3] at hv
          refine go ok_X9_moved ?_
          exact k148 _ _ _ h2 hM2 ho2 hv
        · rw [if_pos c3] at hv
          refine go ok_X9_moved ?_
          refine Cal.z (r_likenessOf hM2.m3 hM2.m5a.1 hf hk ?_)
          refine go ok_X9_moved ?_
          exact k148 _ _ _ h2 hM2 ho2 hv
    refine go ok_X9_moved ?_
    refine asAnd ?_
    rw [hM.m2.1]
    refine And.intro (fun c => ?_) (fun c => ?_)
    · exact absurd c (nI_ge (by omega) (by omega))
    · refine go ok_X9_moved ?_
      refine And.intro (fun c2 => absurd c2 (nI_pos (by omega))) (fun c2 => ?_)
      refine go ok_X9_moved ?_
      refine asAnd ?_
      rw [nI_eq (by omega) (by omega)]
      refine And.intro (fun c3 => ?_) (fun c3 => ?_)
      · refine go ok_X9_moved ?_
        refine Cal.z (r_lastView hM (by omega) (fun h2 hM2 ho2 hV => ?_))
        refine k120 _ _ _ h2 hM2 (ho.tr ho2) (fun k e => (lstL_in hV e).1) ?_
        rw [mvV, if_neg c3]
        cases lstL (vws (gD S) i) <;> rfl
      · refine go ok_X9_moved ?_
        refine k120 none _ _ h' hM ho (fun k e => by cases e) ?_
        rw [mvV, if_pos c3]
theorem r_moved (hM : RM S h) {p : Int32} (q : ∀ h', RM S h' → OM h h' → Q (some (vi (movedA S p))) h') : Con l w true (d + 5) HX9_moved [vr 62, vi p] h 0 0 Q := by
  have h12 := hM.m2.2.1
  have hD := hM.m3.2.1
  refine Con.of ok_X9_moved (nones := [none, none, none, none, none, none, none]) rfl (by simp) ?_
  refine go ok_X9_moved ?_
  refine Cal.z (k_noPage hM.m2 (fun e => ?_) (fun k hk ek e => ?_))
  · rw [movedA, e] at q
    refine go ok_X9_moved ?_
    refine And.intro (fun c => absurd c (by decide)) (fun c => ?_)
    refine go ok_X9_moved ?_
    exact q _ hM (OM.rf h)
  · subst ek
    rw [movedA, e] at q
    dsimp only at q
    refine go ok_X9_moved ?_
    refine And.intro (fun c => ?_) (fun c => absurd c (by decide))
    refine go ok_X9_moved ?_
    refine Cal.z (r_lastView hM (by omega) (fun h' hM' ho hV => ?_))
    cases e2 : lstL (vws (gD S) k) with
    | none =>
      rw [e2] at q
      refine go ok_X9_moved ?_
      refine And.intro (fun c2 => ?_) (fun c2 => absurd c2 (by decide))
      refine go ok_X9_moved ?_
      exact q _ hM' ho
    | some j =>
      rw [e2] at q
      dsimp only at q
      have hj := lstL_in hV e2
      rw [oi_some]
      refine Ex.lay (fun hy => ?_)
      refine go ok_X9_moved ?_
      refine And.intro (fun c2 => absurd c2 (nI_pos (by omega))) (fun c2 => ?_)
      refine go ok_X9_moved ?_
      refine And.intro (ix66 hy rfl (by omega)) ?_
      rw [nI_clamp (by omega), (hM'.m3.2.2 _ hj.1).2.2.1]
      refine And.intro (fun c3 => ?_) (fun c3 => ?_)
      · rw [if_pos c3] at q
        refine go ok_X9_moved ?_
        refine r_moved_loop1 hM' hV ?_ (vws (gD S) k).length 0 (by omega)
        cases e3 : seenR (gD S) (vws (gD S) k) (vws (gD S) k).length with
        | none =>
          rw [e3] at q
          refine go ok_X9_moved ?_
          refine go ok_X9_moved ?_
          refine And.intro (fun c4 => ?_) (fun c4 => ?_)
          · refine go ok_X9_moved ?_
            exact q _ hM' ho
          · refine go ok_X9_moved ?_
            refine And.intro (fun c5 => ?_) (fun c5 => absurd c5 (by decide))
            refine go ok_X9_moved ?_
            exact q _ hM' ho
        | some f =>
          rw [e3] at q
          dsimp only at q
          obtain ⟨i, hi, ef, -⟩ := seenR_in _ _ e3
          have hf : f < (gD S).length := by rw [ef]; exact hV.2.2.1 i hi
          refine go ok_X9_moved ?_
          exact r_moved_loop2 h12 (by omega) hf q (gDs S).length 0 _ _ h' (by omega) hM' ho
      · rw [if_neg c3] at q
        refine go ok_X9_moved ?_
        exact q _ hM' ho
theorem shnR_in {D : List LK} {t : Int32} : ∀ (i k : Nat), shnR D vs t i = some k → ∃ j, j < i ∧ k = gN vs j
  | 0, k, e => by cases e
  | i + 1, k, e => by
    rw [shnR] at e
    split at e
    · injection e with e
      exact ⟨i, by omega, e.symm⟩
    · obtain ⟨j, hj, a⟩ := shnR_in i k e
      exact ⟨j, by omega, a⟩
theorem r_shown_loop (hM : RM S h) (hV : VR (gD S) vs h) {p t x : Int32} (q : Ex l w true mX9_shown d Q 92 [some (vr 62), some (vi p), some (vi t), some (vi x), some (vi (oi (shnR (gD S) vs t vs.length))), some (vi (nI vs.length))] [] h 0 0) : ∀ n i, i + n = vs.length →
    Ex l w true mX9_shown d Q 47 [some (vr 62), some (vi p), some (vi t), some (vi x), some (vi (oi (shnR (gD S) vs t i))), some (vi (nI i))] [] h 0 0 := by
  have hvl := hV.2.2.2
  have hD := hM.m3.2.1
  intro n
  induction n with
  | zero =>
    intro i hi
    have : i = vs.length := by omega
    subst this
    refine go ok_X9_shown ?_
    refine asAnd ?_
    rw [hV.1]
    refine And.intro (fun c => ?_) (fun c => ?_)
    · exact q
    · exact absurd (nI_le (Nat.le_refl _) (by omega)) c
  | succ n ih =>
    intro i hi
    have hh := ih (i + 1) (by omega)
    rw [shnR, ← nI_1] at hh
    have hl := hV.2.2.1 i (by omega)
    have ei : (aI h 72).getD (nI i).toNatClampNeg 0 = nI (gN vs i) := by rw [nI_clamp (by omega)]; exact hV.2.1 i (by omega)
    refine Ex.lay (fun hy => ?_)
    refine go ok_X9_shown ?_
    refine asAnd ?_
    rw [hV.1]
    refine And.intro (fun c => ?_) (fun c => ?_)
    · exact absurd c (nI_ge (by omega) (by omega))
    · refine go ok_X9_shown ?_
      refine And.intro (ix72 hy rfl (by omega)) ?_
      rw [ei]
      refine And.intro (ix65 hy rfl (by omega)) ?_
      rw [nI_clamp (by omega), (hM.m3.2.2 _ hl).2.1]
      refine And.intro (fun c2 => ?_) (fun c2 => ?_)
      · rw [if_neg (by simpa using c2)] at hh
        refine go ok_X9_shown ?_
        refine go ok_X9_shown ?_
        exact hh
      · rw [if_pos (by simpa using c2)] at hh
        refine go ok_X9_shown ?_
        refine And.intro (ix72 hy rfl (by omega)) ?_
        rw [ei]
        refine go ok_X9_shown ?_
        exact hh
theorem r_shown (hM : RM S h) {p t x : Int32} (q : ∀ h', RM S h' → OM h h' → Q (some (vi (shownA S p t x))) h') : Con l w true (d + 5) HX9_shown [vr 62, vi p, vi t, vi x] h 0 0 Q := by
  have h12 := hM.m2.2.1
  refine Con.of ok_X9_shown (nones := [none, none]) rfl (by simp) ?_
  refine go ok_X9_shown ?_
  refine Cal.z (k_noPage hM.m2 (fun e => ?_) (fun k hk ek e => ?_))
  · rw [shownA, e] at q
    refine go ok_X9_shown ?_
    refine And.intro (fun c => absurd c (by decide)) (fun c => ?_)
    refine go ok_X9_shown ?_
    exact q _ hM (OM.rf h)
  · subst ek
    rw [shownA, e] at q
    dsimp only at q
    have k32 : ¬ ((0 ≤ t ∧ t ≤ gNw S) ∧ (0 ≤ x ∧ x ≤ 2)) → Ex l w true mX9_shown (d + 5) Q 32 [some (vr 62), some (vi (nI k)), some (vi t), some (vi x), none, none] [] h 0 0 := by
      intro c
      rw [if_neg c] at q
      refine go ok_X9_shown ?_
      exact q _ hM (OM.rf h)
    refine go ok_X9_shown ?_
    refine And.intro (fun c => ?_) (fun c => absurd c (by decide))
    refine go ok_X9_shown ?_
    refine Cal.z (k_isTime hM.1 (fun c2 => ?_) (fun c2 => ?_))
    · refine go ok_X9_shown ?_
      refine And.intro (fun c3 => absurd c3 (by decide)) (fun c3 => ?_)
      refine go ok_X9_shown ?_
      refine Cal.z (k_in (lo := 0) (hi := 2) rfl rfl (rfl) (fun c => ?_) (fun c => ?_))
      · rw [if_pos ⟨c2, c⟩] at q
        refine go ok_X9_shown ?_
        refine And.intro (fun c3 => ?_) (fun c3 => absurd c3 (by decide))
        refine go ok_X9_shown ?_
        refine Cal.z (r_fv hM (by omega) (fun h' hM' ho hV => ?_))
        refine go ok_X9_shown ?_
        refine r_shown_loop hM' hV ?_ (vws (gD S) k).length 0 (by omega)
        have hin := shnR_in (D := gD S) (vs := vws (gD S) k) (t := t) (vws (gD S) k).length
        have hD := hM'.m3.2.1
        cases e2 : shnR (gD S) (vws (gD S) k) t (vws (gD S) k).length with
        | none =>
          rw [e2] at q
          refine go ok_X9_shown ?_
          refine And.intro (fun c4 => absurd c4 (by decide)) (fun c4 => ?_)
          refine go ok_X9_shown ?_
          exact q _ hM' ho
        | some f =>
          rw [e2] at q
          dsimp only at q
          obtain ⟨i, hi, ef⟩ := hin f e2
          have hf : f < (gD S).length := by rw [ef]; exact hV.2.2.1 i hi
          rw [oi_some]
          refine Ex.lay (fun hy => ?_)
          refine go ok_X9_shown ?_
          refine And.intro (fun c4 => ?_) (fun c4 => absurd (nI_pos' (by omega)) c4)
          refine go ok_X9_shown ?_
          refine And.intro (fun c5 => ?_) (fun c5 => ?_)
          · rw [if_neg c5] at q
            refine go ok_X9_shown ?_
            refine And.intro (fun c6 => ?_) (fun c6 => ?_)
            · rw [if_neg c6] at q
              refine go ok_X9_shown ?_
              refine Cal.z (r_stateAtS hM' hf (fun h3 hM3 ho3 => ?_))
              refine go ok_X9_shown ?_
              exact q _ hM3 (ho.tr ho3)
            · rw [if_pos c6] at q
              refine go ok_X9_shown ?_
              refine And.intro (ix65 hy rfl (by omega)) ?_
              rw [nI_clamp (by omega), (hM'.m3.2.2 _ hf).2.1]
              exact q _ hM' ho
          · rw [if_pos c5] at q
            refine go ok_X9_shown ?_
            exact q _ hM' ho
      · refine go ok_X9_shown ?_
        refine And.intro (fun c3 => absurd c3 (by decide)) (fun c3 => ?_)
        exact k32 (fun z => c z.2)
    · refine go ok_X9_shown ?_
      refine And.intro (fun c3 => ?_) (fun c3 => absurd c3 (by decide))
      exact k32 (fun z => c2 z.1)
end R13

