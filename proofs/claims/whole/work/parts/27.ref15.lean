/-! ===== the reference: links, the whole ===== -/
theorem goN {l : Launch} {w : WD} {lm : Bool} {X : MD} {d : Nat} {Q : Option AV → AH → Prop} {ll : List (Option AV)} {st : List AV} {h : AH} {bc bs : Nat} (n : Nat) (hX : mdOK X) {pc : Nat} (ha : awp l w lm X d Q n (sfx X.2.1 pc) ll st h bc bs) : Ex l w lm X d Q pc ll st h bc bs := by
  obtain ⟨e, r, q1, q2⟩ := awp_ok hX n (sfx X.2.1 pc) ll st h bc bs (fun z hz => sfx_mem z hz) ha
  rw [← sfx_head q1]
  exact q2
section R15
variable {l : Launch} {w : WD} {d : Nat} {h : AH} {Q : Option AV → AH → Prop} {S : SG} {vs : List Nat}
theorem e8 (p k : Nat) : (8 : Int32) * nI p + nI k = nI (8 * p + k) := by show nI 8 * nI p + nI k = _; rw [nI_mul, nI_add]
theorem r_isTrap (hM : RM S h) {p : Nat} (hp : p < 12) (q : Q (some (vi (b2i (trapR (prD (gPr S) p) (prD (gPr S) p).length)))) h) : Con l w true d HX9_isTrap [vr 62, vi (nI p)] h 0 0 Q := by
  obtain ⟨m1, m2, m3⟩ := hM.m8 p hp
  generalize prD (gPr S) p = cs at q m1 m2 m3
  have lp : ∀ n i, i + n = cs.length → Ex l w true mX9_isTrap d Q 4 [some (vr 62), some (vi (nI p)), some (vi (b2i (trapR cs i))), some (vi (nI i))] [] h 0 0 := by
    intro n
    induction n with
    | zero =>
      intro i hi
      have : i = cs.length := by omega
      subst this
      refine Ex.lay (fun hy => ?_)
      refine go ok_X9_isTrap ?_
      refine And.intro (ix76 hy rfl (by omega)) ?_
      refine asAnd ?_
      rw [nI_clamp (by omega), m2]
      refine And.intro (fun c => ?_) (fun c => ?_)
      · refine go ok_X9_isTrap ?_
        refine And.intro (b2i_01 _) ?_
        exact q
      · exact absurd (nI_le (Nat.le_refl _) (by omega)) c
    | succ n ih =>
      intro i hi
      have k37 : ∀ v : Bool, v = trapR cs (i + 1) → Ex l w true mX9_isTrap d Q 37 [some (vr 62), some (vi (nI p)), some (vi (b2i (trapR cs i))), some (vi (nI i))] [vi (b2i v)] h 0 0 := by
        intro v hv
        have hh := ih (i + 1) (by omega)
        rw [← hv, ← nI_1] at hh
        refine go ok_X9_isTrap ?_
        exact hh
      rw [trapR] at k37
      refine Ex.lay (fun hy => ?_)
      refine go ok_X9_isTrap ?_
      refine And.intro (ix76 hy rfl (by omega)) ?_
      refine asAnd ?_
      rw [nI_clamp (by omega), m2]
      refine And.intro (fun c => ?_) (fun c => ?_)
      · exact absurd c (nI_ge (by omega) (by omega))
      · refine go ok_X9_isTrap ?_
        refine And.intro (fun c2 => ?_) (fun c2 => ?_)
        · refine go ok_X9_isTrap ?_
          exact k37 true (by rw [b2i_ne.mp c2]; rfl)
        · refine go ok_X9_isTrap ?_
          refine And.intro (ix79 hy (e8 p i) (by omega)) ?_
          refine asAnd ?_
          rw [e8, nI_clamp (by omega), (m3 i (by omega)).2.2]
          refine And.intro (fun c3 => ?_) (fun c3 => ?_)
          · refine go ok_X9_isTrap ?_
            exact k37 false (by rw [b2i_eq.mp c2]; simpa [gC] using c3)
          · refine go ok_X9_isTrap ?_
            exact k37 true (by rw [b2i_eq.mp c2]; simpa [gC] using c3)
  refine Con.of ok_X9_isTrap (nones := [none, none]) rfl (by simp) ?_
  refine go ok_X9_isTrap ?_
  exact lp cs.length 0 (by omega)
theorem r_linkMany (hM : RM S h) {p : Nat} (hp : p < 12) {most : Int32} (q : Q (some (vi (lnkM (prD (gPr S) p) most (prD (gPr S) p).length))) h) : Con l w true d HX9_linkMany [vr 62, vi (nI p), vi most] h 0 0 Q := by
  obtain ⟨m1, m2, m3⟩ := hM.m8 p hp
  generalize prD (gPr S) p = cs at q m1 m2 m3
  have lp : ∀ n i, i + n = cs.length → Ex l w true mX9_linkMany d Q 8 [some (vr 62), some (vi (nI p)), some (vi most), some (vi (lnkM cs most i)), some (vi (nI (8 * p + i)))] [] h 0 0 := by
    intro n
    induction n with
    | zero =>
      intro i hi
      have : i = cs.length := by omega
      subst this
      refine Ex.lay (fun hy => ?_)
      refine go ok_X9_linkMany ?_
      refine And.intro (ix76 hy rfl (by omega)) ?_
      refine asAnd ?_
      rw [nI_clamp (by omega), m2, e8]
      refine And.intro (fun c => ?_) (fun c => ?_)
      · refine go ok_X9_linkMany ?_
        exact q
      · exact absurd (nI_le (Nat.le_refl _) (by omega)) c
    | succ n ih =>
      intro i hi
      have k60 : ∀ v, v = lnkM cs most (i + 1) → Ex l w true mX9_linkMany d Q 60 [some (vr 62), some (vi (nI p)), some (vi most), some (vi (lnkM cs most i)), some (vi (nI (8 * p + i)))] [vi v] h 0 0 := by
        intro v hv
        have hh := ih (i + 1) (by omega)
        rw [← hv, ← Nat.add_assoc, ← nI_1] at hh
        refine go ok_X9_linkMany ?_
        exact hh
      rw [lnkM] at k60
      have et : (aI h 79).getD (nI (8 * p + i)).toNatClampNeg 0 = (gC cs i).2.2 := by rw [nI_clamp (by omega)]; exact (m3 i (by omega)).2.2
      refine Ex.lay (fun hy => ?_)
      refine go ok_X9_linkMany ?_
      refine And.intro (ix76 hy rfl (by omega)) ?_
      refine asAnd ?_
      rw [nI_clamp (by omega), m2, e8]
      refine And.intro (fun c => ?_) (fun c => ?_)
      · exact absurd c (nI_ge (by omega) (by omega))
      · refine go ok_X9_linkMany ?_
        refine And.intro (ix79 hy rfl (by omega)) ?_
        refine asAnd ?_
        rw [et]
        refine And.intro (fun c2 => ?_) (fun c2 => ?_)
        · refine go ok_X9_linkMany ?_
          exact k60 most (by rw [if_pos (Or.inl c2)])
        · refine go ok_X9_linkMany ?_
          refine And.intro (ix79 hy rfl (by omega)) ?_
          refine asAnd ?_
          rw [et]
          refine And.intro (fun c3 => ?_) (fun c3 => ?_)
          · refine go ok_X9_linkMany ?_
            refine And.intro (ix79 hy rfl (by omega)) ?_
            rw [et]
            exact k60 _ (by rw [if_neg (fun z => z.elim c2 (fun z => absurd c3 (by simpa using z)))])
          · refine go ok_X9_linkMany ?_
            exact k60 most (by rw [if_pos (Or.inr (by simpa using c3))])
  refine Con.of ok_X9_linkMany (nones := [none, none]) rfl (by simp) ?_
  refine go ok_X9_linkMany ?_
  have hh := lp cs.length 0 (by omega)
  rw [← e8] at hh
  rw [show (8 : Int32) * nI p + nI 0 = 8 * nI p from Int32.add_zero _] at hh
  exact hh
theorem r_linkAt (hM : RM S h) {p : Nat} (hp : p < 12) {x : Int32} (q : Q (some (vi (lnkA (prD (gPr S) p) (prD (gPr S) p).length 0 x))) h) : Con l w true d HX9_linkAt [vr 62, vi (nI p), vi x] h 0 0 Q := by
  obtain ⟨m1, m2, m3⟩ := hM.m8 p hp
  generalize prD (gPr S) p = cs at q m1 m2 m3
  have lp : ∀ n i left, i + n = cs.length → Q (some (vi (lnkA cs n i left))) h → Ex l w true mX9_linkAt d Q 8 [some (vr 62), some (vi (nI p)), some (vi x), some (vi left), some (vi (nI (8 * p + i)))] [] h 0 0 := by
    intro n
    induction n with
    | zero =>
      intro i left hi q
      have : i = cs.length := by omega
      subst this
      refine Ex.lay (fun hy => ?_)
      refine go ok_X9_linkAt ?_
      refine And.intro (ix76 hy rfl (by omega)) ?_
      refine asAnd ?_
      rw [nI_clamp (by omega), m2, e8]
      refine And.intro (fun c => ?_) (fun c => ?_)
      · refine go ok_X9_linkAt ?_
        exact q
      · exact absurd (nI_le (Nat.le_refl _) (by omega)) c
    | succ n ih =>
      intro i left hi q
      rw [lnkA] at q
      have et : (aI h 79).getD (nI (8 * p + i)).toNatClampNeg 0 = (gC cs i).2.2 := by rw [nI_clamp (by omega)]; exact (m3 i (by omega)).2.2
      have ef : (aI h 77).getD (nI (8 * p + i)).toNatClampNeg 0 = (gC cs i).1 := by rw [nI_clamp (by omega)]; exact (m3 i (by omega)).1
      have eb : (aI h 78).getD (nI (8 * p + i)).toNatClampNeg 0 = (gC cs i).2.1 := by rw [nI_clamp (by omega)]; exact (m3 i (by omega)).2.1
      refine Ex.lay (fun hy => ?_)
      have k45 : (gC cs i).2.2 < 0 ∨ left < (gC cs i).2.2 → Ex l w true mX9_linkAt d Q 45 [some (vr 62), some (vi (nI p)), some (vi x), some (vi left), some (vi (nI (8 * p + i)))] [] h 0 0 := by
        intro c
        rw [if_pos c] at q
        refine go ok_X9_linkAt ?_
        refine And.intro (ix77 hy rfl (by omega)) ?_
        refine And.intro (ix78 hy rfl (by omega)) ?_
        rw [ef, eb]
        exact q
      refine go ok_X9_linkAt ?_
      refine And.intro (ix76 hy rfl (by omega)) ?_
      refine asAnd ?_
      rw [nI_clamp (by omega), m2, e8]
      refine And.intro (fun c => ?_) (fun c => ?_)
      · exact absurd c (nI_ge (by omega) (by omega))
      · refine go ok_X9_linkAt ?_
        refine And.intro (ix79 hy rfl (by omega)) ?_
        refine asAnd ?_
        rw [et]
        refine And.intro (fun c2 => ?_) (fun c2 => ?_)
        · exact k45 (Or.inl c2)
        · refine go ok_X9_linkAt ?_
          refine And.intro (ix79 hy rfl (by omega)) ?_
          refine asAnd ?_
          rw [et]
          refine And.intro (fun c3 => ?_) (fun c3 => ?_)
          · rw [if_neg (fun z => z.elim c2 (fun z => absurd c3 (by simpa using z)))] at q
            refine go ok_X9_linkAt ?_
            refine And.intro (ix79 hy rfl (by omega)) ?_
            rw [et]
            have hh := ih (i + 1) _ (by omega) q
            rw [← Nat.add_assoc, ← nI_1] at hh
            exact hh
          · exact k45 (Or.inr (by simpa using c3))
  refine Con.of ok_X9_linkAt (nones := [none, none]) rfl (by simp) ?_
  refine go ok_X9_linkAt ?_
  have hh := lp cs.length 0 x (by omega) q
  rw [← e8] at hh
  rw [show (8 : Int32) * nI p + nI 0 = 8 * nI p from Int32.add_zero _] at hh
  exact hh
theorem r_links (hM : RM S h) {p ps x : Int32} (q : Q (some (vi (linksA S p ps x))) h) : Con l w true (d + 2) HX9_links [vr 62, vi p, vi ps, vi x] h 0 0 Q := by
  have h12 := hM.m2.2.1
  refine Con.of ok_X9_links (nones := [none]) rfl (by simp) ?_
  refine go ok_X9_links ?_
  refine Cal.z (k_noPage hM.m2 (fun e => ?_) (fun k hk ek e => ?_))
  · rw [linksA, e] at q
    refine go ok_X9_links ?_
    refine And.intro (fun c => absurd c (by decide)) (fun c => ?_)
    refine go ok_X9_links ?_
    exact q
  · subst ek
    rw [linksA, e] at q
    dsimp only at q
    refine go ok_X9_links ?_
    refine And.intro (fun c => ?_) (fun c => absurd c (by decide))
    refine go ok_X9_links ?_
    refine Cal.z (k_in (lo := 0) (hi := 200) rfl rfl (rfl) (fun c => ?_) (fun c => ?_))
    · rw [if_pos c] at q
      refine go ok_X9_links ?_
      refine And.intro (fun c2 => ?_) (fun c2 => absurd c2 (by decide))
      refine go ok_X9_links ?_
      refine Cal.z (r_linkMany hM (by omega) ?_)
      refine go ok_X9_links ?_
      refine And.intro (fun c3 => ?_) (fun c3 => ?_)
      · rw [if_neg c3] at q
        refine go ok_X9_links ?_
        refine Cal.z (k_in (lo := 0) (hi := lnkM (prD (gPr S) k) ps (prD (gPr S) k).length - 1) rfl rfl rfl (fun c => ?_) (fun c => ?_))
        · rw [if_pos c] at q
          refine go ok_X9_links ?_
          refine And.intro (fun c4 => absurd c4 (by decide)) (fun c4 => ?_)
          refine go ok_X9_links ?_
          refine Cal.z (r_linkAt hM (by omega) ?_)
          refine go ok_X9_links ?_
          exact q
        · rw [if_neg c] at q
          refine go ok_X9_links ?_
          refine And.intro (fun c4 => ?_) (fun c4 => absurd c4 (by decide))
          refine go ok_X9_links ?_
          exact q
      · rw [if_pos c3] at q
        refine go ok_X9_links ?_
        exact q
    · rw [if_neg c] at q
      refine go ok_X9_links ?_
      refine And.intro (fun c2 => absurd c2 (by decide)) (fun c2 => ?_)
      refine go ok_X9_links ?_
      exact q
theorem r_more (hM : RM S h) {p ps : Int32} (q : Q (some (vi (moreA S p ps))) h) : Con l w true (d + 2) HX9_more [vr 62, vi p, vi ps] h 0 0 Q := by
  have h12 := hM.m2.2.1
  refine Con.of ok_X9_more (nones := []) rfl (by simp) ?_
  refine go ok_X9_more ?_
  refine Cal.z (k_noPage hM.m2 (fun e => ?_) (fun k hk ek e => ?_))
  · rw [moreA, e] at q
    refine go ok_X9_more ?_
    refine And.intro (fun c => absurd c (by decide)) (fun c => ?_)
    refine go ok_X9_more ?_
    exact q
  · subst ek
    rw [moreA, e] at q
    dsimp only at q
    refine go ok_X9_more ?_
    refine And.intro (fun c => ?_) (fun c => absurd c (by decide))
    refine go ok_X9_more ?_
    refine Cal.z (k_in (lo := 0) (hi := 200) rfl rfl (rfl) (fun c => ?_) (fun c => ?_))
    · rw [if_pos c] at q
      refine go ok_X9_more ?_
      refine And.intro (fun c2 => ?_) (fun c2 => absurd c2 (by decide))
      refine go ok_X9_more ?_
      refine Cal.z (r_isTrap hM (by omega) ?_)
      refine go ok_X9_more ?_
      refine And.intro (fun c3 => ?_) (fun c3 => ?_)
      · rw [if_neg (by rw [b2i_eq.mp c3]; decide)] at q
        refine go ok_X9_more ?_
        refine Cal.z (r_linkMany hM (by omega) ?_)
        refine go ok_X9_more ?_
        refine And.intro (fun c4 => ?_) (fun c4 => ?_)
        · rw [decide_eq_false (by simpa using c4)] at q
          refine go ok_X9_more ?_
          refine Cal.z (r_one (b := false) ?_)
          refine go ok_X9_more ?_
          exact q
        · rw [decide_eq_true (by simpa using c4)] at q
          refine go ok_X9_more ?_
          refine Cal.z (r_one (b := true) ?_)
          refine go ok_X9_more ?_
          exact q
      · rw [if_pos (b2i_ne.mp c3)] at q
        refine go ok_X9_more ?_
        exact q
    · rw [if_neg c] at q
      refine go ok_X9_more ?_
      refine And.intro (fun c2 => absurd c2 (by decide)) (fun c2 => ?_)
      refine go ok_X9_more ?_
      exact q
end R15

