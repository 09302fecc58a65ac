/-! ===== the reference: rates, likeness, shown, since, first, nowhere ===== -/
section R12
variable {l : Launch} {w : WD} {d : Nat} {h : AH} {Q : Option AV → AH → Prop} {S : SG} {vs : List Nat}
theorem r_rate_loop (hM : RM S h) (hV : VR (gD S) vs h) (h2 : 2 ≤ vs.length) {p : Int32} (q : Ex l w true mX9_rateOf (d + 1) Q 95 [some (vr 62), some (vi p), some (vi (chgR (gD S) (gCl S) vs (vs.length - 1))), some (vi (nI vs.length))] [] h 0 0) : ∀ n i, i + n + 1 = vs.length →
    Ex l w true mX9_rateOf (d + 1) Q 49 [some (vr 62), some (vi p), some (vi (chgR (gD S) (gCl S) vs i)), some (vi (nI (i + 1)))] [] h 0 0 := by
  have hvl := hV.2.2.2
  intro n
  induction n with
  | zero =>
    intro i hi
    have : i + 1 = vs.length := by omega
    refine go ok_X9_rateOf ?_
    refine asAnd ?_
    rw [hV.1, this]
    refine And.intro (fun c => ?_) (fun c => ?_)
    · rw [show i = vs.length - 1 by omega]
      exact q
    · exact absurd (nI_le (Nat.le_refl _) (by omega)) c
  | succ n ih =>
    intro i hi
    have hh := ih (i + 1) (by omega)
    rw [chgR, ← nI_1 (i + 1)] at hh
    refine Ex.lay (fun hy => ?_)
    refine go ok_X9_rateOf ?_
    refine asAnd ?_
    rw [hV.1]
    refine And.intro (fun c => ?_) (fun c => ?_)
    · exact absurd c (nI_ge (by omega) (by omega))
    · refine go ok_X9_rateOf ?_
      refine And.intro (ix72 hy (k := i) (by rw [nI_prd (by omega)]; rfl) (by omega)) ?_
      refine And.intro (ix72 hy rfl (by omega)) ?_
      refine asCal ?_
      rw [nI_prd (by omega), nI_clamp (by omega), nI_clamp (by omega), show i + 1 - 1 = i by omega, hV.2.1 i (by omega), hV.2.1 (i + 1) (by omega)]
      refine Cal.z (r_areAlike hM.m3 hM.m5a.1 (hV.2.2.1 i (by omega)) (hV.2.2.1 (i + 1) (by omega)) ?_)
      refine go ok_X9_rateOf ?_
      refine And.intro (fun c2 => ?_) (fun c2 => ?_)
      · rw [b2i_ne.mp c2] at hh
        refine go ok_X9_rateOf ?_
        refine Cal.z (r_one (b := false) ?_)
        refine go ok_X9_rateOf ?_
        exact hh
      · rw [b2i_eq.mp c2] at hh
        refine go ok_X9_rateOf ?_
        refine Cal.z (r_one (b := true) ?_)
        refine go ok_X9_rateOf ?_
        exact hh
theorem r_rateOf (hM : RM S h) {p : Nat} (hp : p < 2 ^ 31) (q : ∀ h', RM S h' → OM h h' → VR (gD S) (vws (gD S) p) h' → Q (some (vi (rateN (gD S) (gCl S) (vws (gD S) p)))) h') : Con l w true (d + 4) HX9_rateOf [vr 62, vi (nI p)] h 0 0 Q := by
  have hD := hM.m3.2.1
  refine Con.of ok_X9_rateOf (nones := [none, none]) rfl (by simp) ?_
  refine go ok_X9_rateOf ?_
  refine Cal.z (r_fv hM hp (fun h' hM' ho hV => ?_))
  have q := q h' hM' ho hV
  generalize vws (gD S) p = vs at hV q
  have hvl := hV.2.2.2
  have k43 : vs.length < 2 ∨ hrD (gD S) (gN vs (vs.length - 1)) = hrD (gD S) (gN vs 0) → Ex l w true mX9_rateOf (d + 4) Q 43 [some (vr 62), some (vi (nI p)), none, none] [] h' 0 0 := by
    intro c
    rw [rateN, if_pos c] at q
    refine go ok_X9_rateOf ?_
    exact q
  refine Ex.lay (fun hy => ?_)
  refine go ok_X9_rateOf ?_
  refine asAnd ?_
  rw [hV.1]
  refine And.intro (fun c => ?_) (fun c => ?_)
  · replace c : nI vs.length < nI 2 := c
    rw [nI_ltI (by omega) (by omega)] at c
    exact k43 (Or.inl c)
  · replace c : ¬ nI vs.length < nI 2 := c
    rw [nI_ltI (by omega) (by omega)] at c
    have e1 : (nI (vs.length - 1)).toNatClampNeg = vs.length - 1 := nI_clamp (by omega)
    have d1 := hM'.m3.2.2 _ (hV.2.2.1 (vs.length - 1) (by omega))
    have d0 := hM'.m3.2.2 _ (hV.2.2.1 0 (by omega))
    have l1 := hV.2.2.1 (vs.length - 1) (by omega)
    have l0 := hV.2.2.1 0 (by omega)
    have r1 : (aI h' 72).getD (nI vs.length - 1).toNatClampNeg 0 = nI (gN vs (vs.length - 1)) := by rw [nI_prd (by omega), e1]; exact hV.2.1 _ (by omega)
    have r0 : (aI h' 72).getD (0 : Int32).toNatClampNeg 0 = nI (gN vs 0) := hV.2.1 0 (by omega)
    refine go ok_X9_rateOf ?_
    refine And.intro (ix72 hy (k := vs.length - 1) (by rw [hV.1]; exact nI_prd (by omega)) (by omega)) ?_
    rw [hV.1, r1]
    refine And.intro (ix65 hy rfl (by omega)) ?_
    refine And.intro (ix72 hy (k := 0) rfl (by omega)) ?_
    rw [r0]
    refine And.intro (ix65 hy rfl (by omega)) ?_
    rw [nI_clamp (n := gN vs (vs.length - 1)) (by omega), nI_clamp (n := gN vs 0) (by omega), d1.2.1, d0.2.1]
    refine And.intro (fun c2 => ?_) (fun c2 => ?_)
    · rw [rateN, if_neg (fun z => z.elim (fun z => c z) (fun z => c2 z))] at q
      refine go ok_X9_rateOf ?_
      refine r_rate_loop hM' hV (by omega) ?_ (vs.length - 1) 0 (by omega)
      refine go ok_X9_rateOf ?_
      refine And.intro (ix72 hy (k := vs.length - 1) (by rw [hV.1]; exact nI_prd (by omega)) (by omega)) ?_
      rw [hV.1, r1]
      refine And.intro (ix65 hy rfl (by omega)) ?_
      refine And.intro (ix72 hy (k := 0) rfl (by omega)) ?_
      rw [r0]
      refine And.intro (ix65 hy rfl (by omega)) ?_
      rw [nI_clamp (n := gN vs (vs.length - 1)) (by omega), nI_clamp (n := gN vs 0) (by omega), d1.2.1, d0.2.1]
      refine And.intro (i32_sub0 c2) ?_
      exact q
    · exact k43 (Or.inr c2)
theorem r_rate (hM : RM S h) {p : Int32} (q : ∀ h', RM S h' → OM h h' → Q (some (vi (rateA S p))) h') : Con l w true (d + 5) HX9_rate [vr 62, vi p] h 0 0 Q := by
  have h12 := hM.m2.2.1
  refine Con.of ok_X9_rate (nones := []) rfl (by simp) ?_
  refine go ok_X9_rate ?_
  refine Cal.z (k_noPage hM.m2 (fun e => ?_) (fun k hk ek e => ?_))
  · rw [rateA, e] at q
    refine go ok_X9_rate ?_
    refine And.intro (fun c => absurd c (by decide)) (fun c => ?_)
    refine go ok_X9_rate ?_
    exact q _ hM (OM.rf h)
  · subst ek
    rw [rateA, e] at q
    refine go ok_X9_rate ?_
    refine And.intro (fun c => ?_) (fun c => absurd c (by decide))
    refine go ok_X9_rate ?_
    refine Cal.z (r_rateOf hM (by omega) (fun h' hM' ho _ => ?_))
    refine go ok_X9_rate ?_
    exact q _ hM' ho
theorem r_likenessOf {D : List LK} (hM : M3 D h) {cl : Int64} (hcl : hL h 654 62 = cl) {a b : Nat} (ha : a < D.length) (hb : b < D.length) (q : Q (some (vi (lkn D cl a b))) h) : Con l w true (d + 1) HX9_likenessOf [vr 62, vi (nI a), vi (nI b)] h 0 0 Q := by
  have hD := hM.2.1
  have da := hM.2.2 a ha
  have db := hM.2.2 b hb
  have ea : (nI a).toNatClampNeg = a := nI_clamp (by omega)
  have eb : (nI b).toNatClampNeg = b := nI_clamp (by omega)
  refine Con.of ok_X9_likenessOf (nones := [none, none]) rfl (by simp) ?_
  refine Ex.lay (fun hy => ?_)
  refine go ok_X9_likenessOf ?_
  refine And.intro (ix67 hy rfl (by omega)) ?_
  refine And.intro (ix67 hy rfl (by omega)) ?_
  refine asCal ?_
  rw [ea, eb, da.2.2.2.1, db.2.2.2.1, hcl]
  refine Cal.z (r_ones ?_)
  refine go ok_X9_likenessOf ?_
  refine And.intro (ix67 hy rfl (by omega)) ?_
  refine And.intro (ix67 hy rfl (by omega)) ?_
  refine asCal ?_
  rw [ea, eb, da.2.2.2.1, db.2.2.2.1, hcl]
  refine Cal.z (r_ones ?_)
  refine go ok_X9_likenessOf ?_
  refine And.intro (fun c => ?_) (fun c => ?_)
  · rw [lkn, if_neg c] at q
    refine go ok_X9_likenessOf ?_
    refine And.intro c ?_
    exact q
  · rw [lkn, if_pos c] at q
    refine go ok_X9_likenessOf ?_
    exact q
theorem r_likeness (hM : RM S h) {x y : Int32} (q : Q (some (vi (likenessA S x y))) h) : Con l w true (d + 4) HX9_likeness [vr 62, vi x, vi y] h 0 0 Q := by
  refine Con.of ok_X9_likeness (nones := []) rfl (by simp) ?_
  refine go ok_X9_likeness ?_
  refine Cal.z (k_isView hM.m3 (fun e => ?_) (fun k hk ek hvk e => ?_))
  · refine go ok_X9_likeness ?_
    refine And.intro (fun c => ?_) (fun c => absurd c (by decide))
    refine go ok_X9_likeness ?_
    rw [likenessA, e] at q
    exact q
  · subst ek
    refine go ok_X9_likeness ?_
    refine And.intro (fun c => absurd c (by decide)) (fun c => ?_)
    refine go ok_X9_likeness ?_
    refine Cal.z (k_isView hM.m3 (fun e2 => ?_) (fun j hj ej hvj e2 => ?_))
    · refine go ok_X9_likeness ?_
      refine And.intro (fun c => absurd c (by decide)) (fun c => ?_)
      refine go ok_X9_likeness ?_
      rw [likenessA, e, e2] at q
      exact q
    · subst ej
      rw [likenessA, e, e2] at q
      dsimp only at q
      have k45 : ¬ (kdD (gD S) k = 0 ∧ kdD (gD S) j = 0) → Ex l w true mX9_likeness (d + 4) Q 45 [some (vr 62), some (vi (nI k)), some (vi (nI j))] [] h 0 0 := by
        intro c
        rw [if_neg c] at q
        refine go ok_X9_likeness ?_
        exact q
      refine go ok_X9_likeness ?_
      refine And.intro (fun c => ?_) (fun c => absurd c (by decide))
      refine go ok_X9_likeness ?_
      refine Cal.z (k_isSeen (x := 0) hM.m3 hk hvk (fun e3 => ?_) (fun e3 => ?_))
      · refine go ok_X9_likeness ?_
        refine And.intro (fun c => absurd c (by decide)) (fun c => ?_)
        refine go ok_X9_likeness ?_
        refine Cal.z (k_isSeen (x := 0) hM.m3 hj hvj (fun e4 => ?_) (fun e4 => ?_))
        · rw [if_pos ⟨e3, e4⟩] at q
          refine go ok_X9_likeness ?_
          refine And.intro (fun c => absurd c (by decide)) (fun c => ?_)
          refine go ok_X9_likeness ?_
          refine Cal.z (r_likenessOf hM.m3 hM.m5a.1 hk hj ?_)
          refine go ok_X9_likeness ?_
          exact q
        · refine go ok_X9_likeness ?_
          refine And.intro (fun c => ?_) (fun c => absurd c (by decide))
          exact k45 (fun z => by rw [z.2] at e4; exact absurd e4 (by decide))
      · refine go ok_X9_likeness ?_
        refine And.intro (fun c => ?_) (fun c => absurd c (by decide))
        exact k45 (fun z => by rw [z.1] at e3; exact absurd e3 (by decide))
theorem lstL_in {D : List LK} (hV : VR D vs h) {k : Nat} (e : lstL vs = some k) : k < D.length ∧ 0 < vs.length ∧ k = gN vs (vs.length - 1) := by
  unfold lstL at e
  split at e
  · cases e
  · injection e with e
    subst e
    exact ⟨hV.2.2.1 _ (by omega), by omega, rfl⟩
theorem r_lastView (hM : RM S h) {p : Nat} (hp : p < 2 ^ 31) (q : ∀ h', RM S h' → OM h h' → VR (gD S) (vws (gD S) p) h' → Q (some (vi (oi (lstL (vws (gD S) p))))) h') : Con l w true (d + 4) HX9_lastView [vr 62, vi (nI p)] h 0 0 Q := by
  refine Con.of ok_X9_lastView (nones := []) rfl (by simp) ?_
  refine go ok_X9_lastView ?_
  refine Cal.z (r_fv hM hp (fun h' hM' ho hV => ?_))
  have q := q h' hM' ho hV
  generalize vws (gD S) p = vs at hV q
  have hvl := hV.2.2.2
  refine Ex.lay (fun hy => ?_)
  refine go ok_X9_lastView ?_
  refine asAnd ?_
  rw [hV.1]
  refine And.intro (fun c => ?_) (fun c => ?_)
  · replace c : ¬ nI vs.length = nI 0 := c
    rw [nI_eq (by omega) (by omega)] at c
    refine go ok_X9_lastView ?_
    refine And.intro (ix72 hy (k := vs.length - 1) (by rw [hV.1]; exact nI_prd (by omega)) (by omega)) ?_
    rw [hV.1, nI_prd (by omega), nI_clamp (by omega), hV.2.1 _ (by omega)]
    rw [lstL, if_neg c] at q
    exact q
  · replace c : nI vs.length = nI 0 := c
    rw [nI_eq (by omega) (by omega)] at c
    refine go ok_X9_lastView ?_
    rw [lstL, if_pos c] at q
    exact q
theorem r_has {D : List LK} (hM : M3 D h) {a : Nat} (ha : a < D.length) {pc : Int32} (q : Q (some (vi (b2i (hasB D pc a)))) h) : Con l w true d HX9_has [vr 62, vi (nI a), vi pc] h 0 0 Q := by
  have hD := hM.2.1
  refine Con.of ok_X9_has (nones := []) rfl (by simp) ?_
  refine Ex.lay (fun hy => ?_)
  refine go ok_X9_has ?_
  refine And.intro (ix67 hy rfl (by omega)) ?_
  refine asAnd ?_
  rw [nI_clamp (by omega), (hM.2.2 a ha).2.2.2.1, lg_cmp_eq]
  refine And.intro (fun c => ?_) (fun c => ?_)
  · rw [hasB, decide_eq_false c] at q
    refine go ok_X9_has ?_
    refine And.intro (Or.inl rfl) ?_
    exact q
  · rw [hasB, decide_eq_true c] at q
    refine go ok_X9_has ?_
    refine And.intro (Or.inr rfl) ?_
    exact q
theorem r_latestBy (hM : RM S h) (hV : VR (gD S) vs h) {i : Nat} (hi : i < vs.length) (q : Q (some (vi (fromD (gD S) (gN vs i)))) h) : Con l w true d HX9_latestBy [vr 62, vi (nI i)] h 0 0 Q := by
  have hvl := hV.2.2.2
  have hD := hM.m3.2.1
  have hl := hV.2.2.1 i hi
  have di := hM.m3.2.2 _ hl
  have ei : (aI h 72).getD (nI i).toNatClampNeg 0 = nI (gN vs i) := by rw [nI_clamp (by omega)]; exact hV.2.1 i hi
  have el : (nI (gN vs i)).toNatClampNeg = gN vs i := nI_clamp (by omega)
  refine Con.of ok_X9_latestBy (nones := []) rfl (by simp) ?_
  refine Ex.lay (fun hy => ?_)
  refine go ok_X9_latestBy ?_
  refine And.intro (ix72 hy rfl (by omega)) ?_
  rw [ei]
  refine And.intro (ix68 hy rfl (by omega)) ?_
  rw [el, di.2.2.2.2.1]
  refine And.intro (fun c => ?_) (fun c => ?_)
  · rw [fromD, if_neg (by simpa using c)] at q
    refine go ok_X9_latestBy ?_
    refine And.intro (ix72 hy rfl (by omega)) ?_
    rw [ei]
    refine And.intro (ix68 hy rfl (by omega)) ?_
    rw [el, di.2.2.2.2.1]
    exact q
  · rw [fromD, if_pos (by simpa using c)] at q
    refine go ok_X9_latestBy ?_
    refine And.intro (ix72 hy rfl (by omega)) ?_
    rw [ei]
    refine And.intro (ix65 hy rfl (by omega)) ?_
    rw [el, di.2.1]
    exact q
theorem r_earliestBy (hM : RM S h) (hV : VR (gD S) vs h) {i : Nat} (hi : i < vs.length) (q : Q (some (vi (erlD (gD S) vs i))) h) : Con l w true (d + 1) HX9_earliestBy [vr 62, vi (nI i)] h 0 0 Q := by
  have hvl := hV.2.2.2
  have hD := hM.m3.2.1
  refine Con.of ok_X9_earliestBy (nones := [none]) rfl (by simp) ?_
  refine Ex.lay (fun hy => ?_)
  have k23 : ∀ v, v = eaD (gD S) vs i → Ex l w true mX9_earliestBy (d + 1) Q 23 [some (vr 62), some (vi (nI i)), none] [vi v] h 0 0 := by
    intro v hv
    subst hv
    refine go ok_X9_earliestBy ?_
    refine Cal.z (r_latestBy hM hV hi ?_)
    refine go ok_X9_earliestBy ?_
    refine And.intro (fun c => ?_) (fun c => ?_)
    · rw [erlD, if_neg (by simpa using c)] at q
      refine go ok_X9_earliestBy ?_
      refine Cal.z (r_latestBy hM hV hi ?_)
      refine go ok_X9_earliestBy ?_
      exact q
    · rw [erlD, if_pos (by simpa using c)] at q
      refine go ok_X9_earliestBy ?_
      exact q
  refine go ok_X9_earliestBy ?_
  refine And.intro (fun c => ?_) (fun c => ?_)
  · replace c : ¬ nI i = nI 0 := c
    rw [nI_eq (by omega) (by omega)] at c
    have hl := hV.2.2.1 (i - 1) (by omega)
    refine go ok_X9_earliestBy ?_
    refine And.intro (ix72 hy (k := i - 1) (nI_prd (by omega)) (by omega)) ?_
    rw [nI_prd (by omega), nI_clamp (by omega), hV.2.1 _ (by omega)]
    refine And.intro (ix65 hy rfl (by omega)) ?_
    rw [nI_clamp (by omega), (hM.m3.2.2 _ hl).2.1]
    exact k23 _ (by rw [eaD, if_neg c])
  · replace c : nI i = nI 0 := c
    rw [nI_eq (by omega) (by omega)] at c
    refine go ok_X9_earliestBy ?_
    exact k23 _ (by rw [eaD, if_pos c])
theorem r_since_loop (hM : RM S h) (hV : VR (gD S) vs h) {p pc x : Int32} (q : ∀ j, j < vs.length → j = snR (gD S) pc vs (vs.length - 1) → Ex l w true mX9_since (d + 1) Q 109 [some (vr 62), some (vi p), some (vi pc), some (vi x), some (vi (nI j))] [] h 0 0) : ∀ i, i < vs.length → snR (gD S) pc vs i = snR (gD S) pc vs (vs.length - 1) →
    Ex l w true mX9_since (d + 1) Q 81 [some (vr 62), some (vi p), some (vi pc), some (vi x), some (vi (nI i))] [] h 0 0 := by
  have hvl := hV.2.2.2
  intro i
  induction i with
  | zero =>
    intro hi e
    refine go ok_X9_since ?_
    refine And.intro (fun c => ?_) (fun c => absurd c (by decide))
    exact q 0 hi e
  | succ i ih =>
    intro hi e
    refine Ex.lay (fun hy => ?_)
    refine go ok_X9_since ?_
    refine And.intro (fun c => ?_) (fun c => ?_)
    · replace c : nI (i + 1) ≤ nI 0 := c; rw [nI_leI (by omega) (by omega)] at c
      omega
    · refine go ok_X9_since ?_
      refine And.intro (ix72 hy (k := i) (nI_prd (n := i + 1) (by omega)) (by omega)) ?_
      refine asCal ?_
      rw [nI_prd (by omega), nI_clamp (by omega), hV.2.1 _ (by omega), show i + 1 - 1 = i by omega]
      refine Cal.z (r_has hM.m3 (hV.2.2.1 i (by omega)) ?_)
      refine go ok_X9_since ?_
      refine And.intro (fun c2 => ?_) (fun c2 => ?_)
      · rw [snR, if_neg (by rw [b2i_eq.mp c2]; decide)] at e
        exact q (i + 1) hi e
      · rw [snR, if_pos (b2i_ne.mp c2)] at e
        have hh := ih (by omega) e
        rw [show nI i = nI (i + 1) + -1 by rw [← nI_1, Int32.add_assoc]; show nI i = nI i + 0; rw [Int32.add_zero]] at hh
        refine go ok_X9_since ?_
        exact hh
theorem r_since (hM : RM S h) {p pc x : Int32} (q : ∀ h', RM S h' → OM h h' → Q (some (vi (sinceA S p pc x))) h') : Con l w true (d + 4) HX9_since [vr 62, vi p, vi pc, vi x] h 0 0 Q := by
  have h12 := hM.m2.2.1
  refine Con.of ok_X9_since (nones := [none]) rfl (by simp) ?_
  refine go ok_X9_since ?_
  refine Cal.z (k_noPage hM.m2 (fun e => ?_) (fun k hk ek e => ?_))
  · rw [sinceA, e] at q
    refine go ok_X9_since ?_
    refine And.intro (fun c => absurd c (by decide)) (fun c => ?_)
    refine go ok_X9_since ?_
    exact q _ hM (OM.rf h)
  · subst ek
    rw [sinceA, e] at q
    dsimp only at q
    have k34 : ¬ ((0 ≤ pc ∧ pc ≤ 59) ∧ (0 ≤ x ∧ x ≤ 1)) → Ex l w true mX9_since (d + 4) Q 34 [some (vr 62), some (vi (nI k)), some (vi pc), some (vi x), none] [] h 0 0 := by
      intro c
      rw [if_neg c] at q
      refine go ok_X9_since ?_
      exact q _ hM (OM.rf h)
    refine go ok_X9_since ?_
    refine And.intro (fun c => ?_) (fun c => absurd c (by decide))
    refine go ok_X9_since ?_
    refine Cal.z (k_in (lo := 0) (hi := 59) rfl rfl (rfl) (fun c => ?_) (fun c => ?_))
    · refine go ok_X9_since ?_
      refine And.intro (fun c2 => absurd c2 (by decide)) (fun c2 => ?_)
      have c3 := c
      refine go ok_X9_since ?_
      refine Cal.z (k_in (lo := 0) (hi := 1) rfl rfl (rfl) (fun c => ?_) (fun c => ?_))
      · rw [if_pos ⟨c3, c⟩] at q
        refine go ok_X9_since ?_
        refine And.intro (fun c2 => ?_) (fun c2 => absurd c2 (by decide))
        refine go ok_X9_since ?_
        refine Cal.z (r_fv hM (by omega) (fun h' hM' ho hV => ?_))
        have q := q h' hM' ho
        generalize vws (gD S) k = vs at hV q
        have hvl := hV.2.2.2
        have k69 : (vs.length = 0 ∨ hasB (gD S) pc (gN vs (vs.length - 1)) = false) → Ex l w true mX9_since (d + 4) Q 69 [some (vr 62), some (vi (nI k)), some (vi pc), some (vi x), none] [] h' 0 0 := by
          intro c
          rw [if_pos c] at q
          refine go ok_X9_since ?_
          exact q
        refine Ex.lay (fun hy => ?_)
        refine go ok_X9_since ?_
        refine asAnd ?_
        rw [hV.1]
        refine And.intro (fun c4 => ?_) (fun c4 => ?_)
        · replace c4 : nI vs.length = nI 0 := c4
          rw [nI_eq (by omega) (by omega)] at c4
          exact k69 (Or.inl c4)
        · replace c4 : ¬ nI vs.length = nI 0 := c4
          rw [nI_eq (by omega) (by omega)] at c4
          refine go ok_X9_since ?_
          refine And.intro (ix72 hy (k := vs.length - 1) (by rw [hV.1]; exact nI_prd (by omega)) (by omega)) ?_
          refine asCal ?_
          rw [hV.1, nI_prd (by omega), nI_clamp (by omega), hV.2.1 _ (by omega)]
          refine Cal.z (r_has hM'.m3 (hV.2.2.1 _ (by omega)) ?_)
          refine go ok_X9_since ?_
          refine And.intro (fun c5 => ?_) (fun c5 => ?_)
          · rw [if_neg (fun z => z.elim c4 (fun z => by rw [z] at c5; exact c5 rfl))] at q
            have hh := r_since_loop (l := l) (w := w) (d := d + 3) (Q := Q) (p := nI k) (pc := pc) (x := x) hM' hV (fun j hj ej => ?_) (vs.length - 1) (by omega) rfl
            rw [show nI (vs.length - 1) = hI h' 656 62 - 1 by rw [hV.1, nI_prd (by omega)]] at hh
            refine go ok_X9_since ?_
            exact hh
            rw [← ej] at q
            refine go ok_X9_since ?_
            refine And.intro (fun c6 => ?_) (fun c6 => ?_)
            · rw [if_neg c6] at q
              refine go ok_X9_since ?_
              refine Cal.z (r_latestBy hM' hV hj ?_)
              refine go ok_X9_since ?_
              exact q
            · rw [if_pos c6] at q
              refine go ok_X9_since ?_
              refine Cal.z (r_earliestBy hM' hV hj ?_)
              refine go ok_X9_since ?_
              exact q
          · exact k69 (Or.inr (b2i_eq.mp c5))
      · refine go ok_X9_since ?_
        refine And.intro (fun c2 => absurd c2 (by decide)) (fun c2 => ?_)
        exact k34 (fun z => c z.2)
    · refine go ok_X9_since ?_
      refine And.intro (fun c2 => ?_) (fun c2 => absurd c2 (by decide))
      exact k34 (fun z => c z.1)
theorem r_firstWith (hM : RM S h) {p : Nat} (hp : p < 2 ^ 31) {pc : Int32} (q : ∀ h', RM S h' → OM h h' → VR (gD S) (vws (gD S) p) h' → Q (some (vi (oi (fwP S pc p)))) h') : Con l w true (d + 4) HX9_firstWith [vr 62, vi (nI p), vi pc] h 0 0 Q := by
  refine Con.of ok_X9_firstWith (nones := [none]) rfl (by simp) ?_
  refine go ok_X9_firstWith ?_
  refine Cal.z (r_fv hM hp (fun h' hM' ho hV => ?_))
  have q := q h' hM' ho hV
  unfold fwP at q
  generalize vws (gD S) p = vs at hV q
  have hvl := hV.2.2.2
  have lp : ∀ n i, i + n = vs.length → fwO (gD S) pc vs i = none → Ex l w true mX9_firstWith (d + 4) Q 7 [some (vr 62), some (vi (nI p)), some (vi pc), some (vi (nI i))] [] h' 0 0 := by
    intro n
    induction n with
    | zero =>
      intro i hi e
      have : i = vs.length := by omega
      subst this
      rw [e] at q
      refine go ok_X9_firstWith ?_
      refine asAnd ?_
      rw [hV.1]
      refine And.intro (fun c => ?_) (fun c => ?_)
      · refine go ok_X9_firstWith ?_
        exact q
      · exact absurd (nI_le (Nat.le_refl _) (by omega)) c
    | succ n ih =>
      intro i hi e
      refine Ex.lay (fun hy => ?_)
      refine go ok_X9_firstWith ?_
      refine asAnd ?_
      rw [hV.1]
      refine And.intro (fun c => ?_) (fun c => ?_)
      · exact absurd c (nI_ge (by omega) (by omega))
      · refine go ok_X9_firstWith ?_
        refine And.intro (ix72 hy rfl (by omega)) ?_
        refine asCal ?_
        rw [nI_clamp (by omega), hV.2.1 i (by omega)]
        refine Cal.z (r_has hM'.m3 (hV.2.2.1 i (by omega)) ?_)
        refine go ok_X9_firstWith ?_
        refine And.intro (fun c2 => ?_) (fun c2 => ?_)
        · have hh := ih (i + 1) (by omega) (by rw [fwO, e, if_neg (by rw [b2i_eq.mp c2]; decide)]; rfl)
          rw [← nI_1] at hh
          refine go ok_X9_firstWith ?_
          exact hh
        · have e2 : fwO (gD S) pc vs (i + 1) = some i := by rw [fwO, e, if_pos (b2i_ne.mp c2)]; rfl
          have e3 : ∀ m, fwO (gD S) pc vs (i + 1 + m) = some i := by
            intro m
            induction m with
            | zero => exact e2
            | succ m ihm => rw [← Nat.add_assoc, fwO, ihm]; rfl
          have e4 := e3 n
          rw [show i + 1 + n = vs.length by omega] at e4
          rw [e4] at q
          refine go ok_X9_firstWith ?_
          exact q
  refine go ok_X9_firstWith ?_
  exact lp vs.length 0 (by omega) rfl
end R12

