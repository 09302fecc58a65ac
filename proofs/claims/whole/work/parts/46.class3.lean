/-! ===== the class: views of a page, sure, state ===== -/
section C3
variable {l : Launch} {w : WD} {d : Nat} {h : AH} {Q : Option AV → AH → Prop} {S : SG} {G : GH} {p : Nat}
theorem RC.pv (hc : RC S G h) {p : Nat} (hp : p < (gDs S).length) : hC h (gN (gPa G) p) = 4 := (hc.fv hp).1
theorem RC.la0 (hc : RC S G h) {k : Nat} (hk : k < (gD S).length) : ¬ gN (gLa G) k = 0 := by have := (hc.lks.2 k hk).1.2; omega
theorem c_lastView (hc : RC S G h) (hp : p < (gDs S).length) (q : Q (some (vr (oa (gLa G) (lstL (vws (gD S) p))))) h) : Con l w true (d + 3) HX2_lastView [vr (gN (gPa G) p)] h 0 0 Q := by
  obtain ⟨t4, hf⟩ := hc.fv hp
  have h150 := hf.len
  generalize vws (gD S) p = vs at hf q h150
  unfold lstL at q
  refine Con.of ok_X2_lastView (nones := []) rfl (by simp) ?_
  refine go ok_X2_lastView ?_
  refine And.intro t4 ?_
  refine asAnd ?_
  refine And.intro hf.1.1 ?_
  refine Cal.z (j_isEmpty hf.1 (by rw [vwA_len]; omega) ?_)
  rw [vwA_len]
  by_cases c : vs.length = 0
  · rw [if_pos c] at q
    rw [decide_eq_true c]
    refine go ok_X2_lastView ?_
    refine And.intro (fun c2 => absurd c2 (by decide)) (fun c2 => ?_)
    refine go ok_X2_lastView ?_
    exact q
  · rw [if_neg c] at q
    rw [decide_eq_false c]
    refine go ok_X2_lastView ?_
    refine And.intro (fun c2 => ?_) (fun c2 => absurd c2 (by decide))
    refine go ok_X2_lastView ?_
    refine And.intro t4 ?_
    refine asAnd ?_
    refine And.intro t4 ?_
    refine asAnd ?_
    refine And.intro hf.1.1 ?_
    refine Cal.z (hf.size ?_)
    refine go ok_X2_lastView ?_
    refine And.intro hf.1.1 ?_
    refine asCal ?_
    rw [nI_prd (by omega)]
    refine Cal.z (hf.get (i := vs.length - 1) (by omega) ?_)
    refine go ok_X2_lastView ?_
    refine And.intro (Or.inr (hf.t3 hc (by omega))) ?_
    exact q
theorem c_lastSeen (hc : RC S G h) (hp : p < (gDs S).length) (q : Q (some (vr (oa (gLa G) (seenR (gD S) (vws (gD S) p) (vws (gD S) p).length)))) h) : Con l w true (d + 3) HX2_lastSeen [vr (gN (gPa G) p)] h 0 0 Q := by
  obtain ⟨t4, hf⟩ := hc.fv hp
  have h150 := hf.len
  generalize vws (gD S) p = vs at hf q h150
  have lp : ∀ k, k ≤ vs.length → seenR (gD S) vs vs.length = seenR (gD S) vs k → Ex l w true mX2_lastSeen (d + 3) Q 12 [some (vr (gN (gPa G) p)), some (vi (nI k - 1))] [] h 0 0 := by
    intro k
    induction k with
    | zero =>
      intro hk e
      rw [e] at q
      refine go ok_X2_lastSeen ?_
      refine And.intro (fun c => ?_) (fun c => absurd c (by decide))
      refine go ok_X2_lastSeen ?_
      exact q
    | succ k ih =>
      intro hk e
      obtain ⟨⟨t1, -⟩, -, -, -, t3, -⟩ := hc.lks.2 _ (hf.2 k (by omega)).1
      rw [nI_prd (n := k + 1) (by omega), show k + 1 - 1 = k from rfl]
      refine go ok_X2_lastSeen ?_
      refine And.intro (fun c => absurd c (nI_pos (by omega))) (fun c => ?_)
      refine go ok_X2_lastSeen ?_
      refine And.intro t4 ?_
      refine asAnd ?_
      refine And.intro hf.1.1 ?_
      refine Cal.z (hf.get (i := k) (by omega) ?_)
      refine go ok_X2_lastSeen ?_
      refine And.intro (Or.inr t1) ?_
      refine asAnd ?_
      refine And.intro t1 ?_
      refine Cal.z (c_isSeen t1 t3 ?_)
      rw [seenR] at e
      by_cases c2 : kdD (gD S) (gN vs k) = 0
      · rw [if_pos c2] at e
        rw [e] at q
        rw [decide_eq_true c2]
        refine go ok_X2_lastSeen ?_
        refine And.intro (fun c3 => absurd c3 (by decide)) (fun c3 => ?_)
        refine go ok_X2_lastSeen ?_
        refine And.intro t4 ?_
        refine asAnd ?_
        refine And.intro hf.1.1 ?_
        refine Cal.z (hf.get (i := k) (by omega) ?_)
        refine go ok_X2_lastSeen ?_
        refine And.intro (Or.inr t1) ?_
        exact q
      · rw [if_neg c2] at e
        rw [decide_eq_false c2]
        have hh := ih (by omega) e
        rw [Int32.sub_eq_add_neg] at hh
        refine go ok_X2_lastSeen ?_
        refine And.intro (fun c3 => ?_) (fun c3 => absurd c3 (by decide))
        refine go ok_X2_lastSeen ?_
        exact hh
  refine Con.of ok_X2_lastSeen (nones := [none]) rfl (by simp) ?_
  refine go ok_X2_lastSeen ?_
  refine And.intro t4 ?_
  refine asAnd ?_
  refine And.intro hf.1.1 ?_
  refine Cal.z (hf.size ?_)
  refine go ok_X2_lastSeen ?_
  exact lp vs.length (Nat.le_refl _) rfl
theorem c_lastUpTo (hc : RC S G h) (hp : p < (gDs S).length) {t : Int32} (q : Q (some (vr (oa (gLa G) (shnR (gD S) (vws (gD S) p) t (vws (gD S) p).length)))) h) : Con l w true (d + 3) HX2_lastUpTo [vr (gN (gPa G) p), vi t] h 0 0 Q := by
  obtain ⟨t4, hf⟩ := hc.fv hp
  have h150 := hf.len
  generalize vws (gD S) p = vs at hf q h150
  have lp : ∀ k, k ≤ vs.length → shnR (gD S) vs t vs.length = shnR (gD S) vs t k → Ex l w true mX2_lastUpTo (d + 3) Q 12 [some (vr (gN (gPa G) p)), some (vi t), some (vi (nI k - 1))] [] h 0 0 := by
    intro k
    induction k with
    | zero =>
      intro hk e
      rw [e] at q
      refine go ok_X2_lastUpTo ?_
      refine And.intro (fun c => ?_) (fun c => absurd c (by decide))
      refine go ok_X2_lastUpTo ?_
      exact q
    | succ k ih =>
      intro hk e
      obtain ⟨⟨t1, -⟩, -, -, t3, -⟩ := hc.lks.2 _ (hf.2 k (by omega)).1
      rw [nI_prd (n := k + 1) (by omega), show k + 1 - 1 = k from rfl]
      refine go ok_X2_lastUpTo ?_
      refine And.intro (fun c => absurd c (nI_pos (by omega))) (fun c => ?_)
      refine go ok_X2_lastUpTo ?_
      refine And.intro t4 ?_
      refine asAnd ?_
      refine And.intro hf.1.1 ?_
      refine Cal.z (hf.get (i := k) (by omega) ?_)
      refine go ok_X2_lastUpTo ?_
      refine And.intro (Or.inr t1) ?_
      refine asAnd ?_
      refine And.intro t1 ?_
      refine asAnd ?_
      rw [t3]
      rw [shnR] at e
      refine And.intro (fun c2 => ?_) (fun c2 => ?_)
      · rw [if_neg (by simpa using c2)] at e
        have hh := ih (by omega) e
        rw [Int32.sub_eq_add_neg] at hh
        refine go ok_X2_lastUpTo ?_
        exact hh
      · rw [if_pos (by simpa using c2)] at e
        rw [e] at q
        refine go ok_X2_lastUpTo ?_
        refine And.intro t4 ?_
        refine asAnd ?_
        refine And.intro hf.1.1 ?_
        refine Cal.z (hf.get (i := k) (by omega) ?_)
        refine go ok_X2_lastUpTo ?_
        refine And.intro (Or.inr t1) ?_
        exact q
  refine Con.of ok_X2_lastUpTo (nones := [none]) rfl (by simp) ?_
  refine go ok_X2_lastUpTo ?_
  refine And.intro t4 ?_
  refine asAnd ?_
  refine And.intro hf.1.1 ?_
  refine Cal.z (hf.size ?_)
  refine go ok_X2_lastUpTo ?_
  exact lp vs.length (Nat.le_refl _) rfl
theorem ffO_some {D : List LK} {vs : List Nat} {t : Int32} {i k : Nat} (e : ffO D vs t i = some k) : ∀ n, ffO D vs t (i + n) = some k
  | 0 => e
  | n + 1 => by rw [← Nat.add_assoc, ffO, ffO_some e n]; rfl
theorem c_firstFrom (hc : RC S G h) (hp : p < (gDs S).length) {t : Int32} (q : Q (some (vr (oa (gLa G) (ffO (gD S) (vws (gD S) p) t (vws (gD S) p).length)))) h) : Con l w true (d + 3) HX2_firstFrom [vr (gN (gPa G) p), vi t] h 0 0 Q := by
  obtain ⟨t4, hf⟩ := hc.fv hp
  have h150 := hf.len
  generalize vws (gD S) p = vs at hf q h150
  have lp : ∀ n i, i + n = vs.length → ffO (gD S) vs t i = none → Ex l w true mX2_firstFrom (d + 3) Q 2 [some (vr (gN (gPa G) p)), some (vi t), some (vi (nI i))] [] h 0 0 := by
    intro n
    induction n with
    | zero =>
      intro i hi e
      have : i = vs.length := by omega
      subst this
      rw [e] at q
      refine go ok_X2_firstFrom ?_
      refine And.intro t4 ?_
      refine asAnd ?_
      refine And.intro hf.1.1 ?_
      refine Cal.z (hf.size ?_)
      refine go ok_X2_firstFrom ?_
      refine asAnd ?_
      rw [nI_leI (by omega) (by omega)]
      refine And.intro (fun c => ?_) (fun c => ?_)
      · refine go ok_X2_firstFrom ?_
        exact q
      · omega
    | succ n ih =>
      intro i hi e
      obtain ⟨⟨t1, -⟩, -, -, t3, -⟩ := hc.lks.2 _ (hf.2 i (by omega)).1
      refine go ok_X2_firstFrom ?_
      refine And.intro t4 ?_
      refine asAnd ?_
      refine And.intro hf.1.1 ?_
      refine Cal.z (hf.size ?_)
      refine go ok_X2_firstFrom ?_
      refine asAnd ?_
      rw [nI_leI (by omega) (by omega)]
      refine And.intro (fun c => ?_) (fun c => ?_)
      · omega
      · refine go ok_X2_firstFrom ?_
        refine And.intro t4 ?_
        refine asAnd ?_
        refine And.intro hf.1.1 ?_
        refine Cal.z (hf.get (i := i) (by omega) ?_)
        refine go ok_X2_firstFrom ?_
        refine And.intro (Or.inr t1) ?_
        refine asAnd ?_
        refine And.intro t1 ?_
        refine asAnd ?_
        rw [t3]
        refine And.intro (fun c2 => ?_) (fun c2 => ?_)
        · have hh := ih (i + 1) (by omega) (by rw [ffO, e, if_neg (by simpa using c2)]; rfl)
          rw [← nI_1] at hh
          refine go ok_X2_firstFrom ?_
          exact hh
        · have e2 : ffO (gD S) vs t (i + 1) = some (gN vs i) := by rw [ffO, e, if_pos (by simpa using c2)]; rfl
          have e3 := ffO_some e2 n
          rw [show i + 1 + n = vs.length by omega] at e3
          rw [e3] at q
          refine go ok_X2_firstFrom ?_
          refine And.intro t4 ?_
          refine asAnd ?_
          refine And.intro hf.1.1 ?_
          refine Cal.z (hf.get (i := i) (by omega) ?_)
          refine go ok_X2_firstFrom ?_
          refine And.intro (Or.inr t1) ?_
          exact q
  refine Con.of ok_X2_firstFrom (nones := [none]) rfl (by simp) ?_
  refine go ok_X2_firstFrom ?_
  exact lp vs.length 0 (by omega) rfl
theorem surR_quar {D : List LK} {cl : Int64} {pt : Int32} {vs : List Nat} {t : Int32} {i : Nat} (e : (surR D cl pt vs t i).2 = true) : ∀ n, (surR D cl pt vs t (i + n)).2 = true
  | 0 => e
  | n + 1 => by
    have := surR_quar e n
    rw [← Nat.add_assoc, surR]
    split
    · dsimp only; rw [this, Bool.true_or]
    · exact this
theorem c_sureAt (hc : RC S G h) (hv : Inv S) (hp : p < (gDs S).length) {t : Int32} (q : Q (some (vi (sureR (gD S) (gCl S) (gPt S) (vws (gD S) p) t))) h) : Con l w true (d + 4) HX2_sureAt [vr (gN (gPa G) p), vi t, vr (hR h 583 32)] h 0 0 Q := by
  obtain ⟨t4, hf⟩ := hc.fv hp
  have h150 := hf.len
  have hcl := fun i hi q => c_claims (l := l) (w := w) (d := d) (h := h) (Q := q) hc hv hp (i := i) hi (t := t)
  generalize vws (gD S) p = vs at hf q h150 hcl
  have hin := surR_in (D := gD S) (cl := gCl S) (pt := gPt S) (vs := vs) (t := t)
  have lp : ∀ n i, i + n = vs.length → (surR (gD S) (gCl S) (gPt S) vs t i).2 = false → Ex l w true mX2_sureAt (d + 4) Q 5 [some (vr (gN (gPa G) p)), some (vi t), some (vr (hR h 583 32)), some (vr (oa (gLa G) (surR (gD S) (gCl S) (gPt S) vs t i).1)), some (vi (nI i))] [] h 0 0 := by
    intro n
    induction n with
    | zero =>
      intro i hi e
      have : i = vs.length := by omega
      subst this
      unfold sureR at q
      rw [e, if_neg (by decide)] at q
      refine go ok_X2_sureAt ?_
      refine And.intro t4 ?_
      refine asAnd ?_
      refine And.intro hf.1.1 ?_
      refine Cal.z (hf.size ?_)
      refine go ok_X2_sureAt ?_
      refine asAnd ?_
      rw [nI_leI (by omega) (by omega)]
      refine And.intro (fun c => ?_) (fun c => ?_)
      · cases e2 : (surR (gD S) (gCl S) (gPt S) vs t vs.length).1 with
        | none =>
          rw [e2] at q
          refine go ok_X2_sureAt ?_
          refine And.intro (fun c2 => absurd rfl c2) (fun c2 => ?_)
          refine go ok_X2_sureAt ?_
          exact q
        | some f =>
          rw [e2] at q
          obtain ⟨j, hj, ej⟩ := hin vs.length (Nat.le_refl _) f e2
          have hfD : f < (gD S).length := by rw [ej]; exact (hf.2 j hj).1
          refine go ok_X2_sureAt ?_
          refine And.intro (fun c2 => ?_) (fun c2 => absurd c2 (hc.la0 hfD))
          refine go ok_X2_sureAt ?_
          refine And.intro (hc.lks.2 f hfD).1.1 ?_
          exact Qv q (hc.lks.2 f hfD).2.1.symm
      · omega
    | succ n ih =>
      intro i hi e
      have hlt : i < vs.length := by omega
      obtain ⟨l1, v1⟩ := hf.2 i hlt
      have ih' := ih (i + 1) (by omega)
      have k77 : ∀ o, o = (surR (gD S) (gCl S) (gPt S) vs t (i + 1)).1 → (surR (gD S) (gCl S) (gPt S) vs t (i + 1)).2 = false → Ex l w true mX2_sureAt (d + 4) Q 77 [some (vr (gN (gPa G) p)), some (vi t), some (vr (hR h 583 32)), some (vr (oa (gLa G) o)), some (vi (nI i))] [] h 0 0 := by
        intro o ho e2
        have hh := ih' e2
        rw [← ho, ← nI_1] at hh
        refine go ok_X2_sureAt ?_
        exact hh
      refine go ok_X2_sureAt ?_
      refine And.intro t4 ?_
      refine asAnd ?_
      refine And.intro hf.1.1 ?_
      refine Cal.z (hf.size ?_)
      refine go ok_X2_sureAt ?_
      refine asAnd ?_
      rw [nI_leI (by omega) (by omega)]
      refine And.intro (fun c => ?_) (fun c => ?_)
      · omega
      · refine go ok_X2_sureAt ?_
        refine And.intro t4 ?_
        refine Cal.z (hcl i hlt _ ?_)
        refine go ok_X2_sureAt ?_
        refine And.intro (fun c2 => ?_) (fun c2 => ?_)
        · have c3 := b2i_eq.mp c2
          rw [surR, if_neg (by rw [c3]; decide)] at k77
          exact k77 _ rfl e
        · have c3 := b2i_ne.mp c2
          have es : surR (gD S) (gCl S) (gPt S) vs t (i + 1) = ((surR (gD S) (gCl S) (gPt S) vs t i).1.or (some (gN vs i)), (surR (gD S) (gCl S) (gPt S) vs t i).2 || ((surR (gD S) (gCl S) (gPt S) vs t i).1.any (fun f => !alk (gD S) (gCl S) f (gN vs i)))) := by rw [surR, if_pos c3]
          rw [es] at k77
          cases e2 : (surR (gD S) (gCl S) (gPt S) vs t i).1 with
          | none =>
            rw [e2, e] at k77
            refine go ok_X2_sureAt ?_
            refine And.intro (fun c4 => absurd rfl c4) (fun c4 => ?_)
            refine go ok_X2_sureAt ?_
            refine And.intro t4 ?_
            refine asAnd ?_
            refine And.intro hf.1.1 ?_
            refine Cal.z (hf.get hlt ?_)
            refine go ok_X2_sureAt ?_
            refine And.intro (Or.inr (hf.t3 hc hlt)) ?_
            exact k77 (some (gN vs i)) rfl rfl
          | some f =>
            rw [e2, e] at k77
            obtain ⟨j, hj, ej⟩ := hin i (by omega) f e2
            have hfD : f < (gD S).length ∧ isV (gD S) f = true := by rw [ej]; exact hf.2 j (by omega)
            refine go ok_X2_sureAt ?_
            refine And.intro (fun c4 => ?_) (fun c4 => absurd c4 (hc.la0 hfD.1))
            refine go ok_X2_sureAt ?_
            refine And.intro t4 ?_
            refine asAnd ?_
            refine And.intro hf.1.1 ?_
            refine Cal.z (hf.get hlt ?_)
            refine go ok_X2_sureAt ?_
            refine And.intro (Or.inr (hf.t3 hc hlt)) ?_
            refine asAnd ?_
            refine And.intro hc.rt.1 ?_
            refine Cal.z (c_sameForm hc hv hfD.1 l1 hfD.2 v1 ?_)
            refine go ok_X2_sureAt ?_
            refine And.intro (fun c5 => ?_) (fun c5 => ?_)
            · exact k77 (some f) rfl (by rw [Option.any_some, b2i_ne.mp c5]; rfl)
            · have eq : (surR (gD S) (gCl S) (gPt S) vs t (i + 1)).2 = true := by
                rw [es]
                dsimp only
                rw [e2, Option.any_some, b2i_eq.mp c5, Bool.not_false, Bool.or_true]
              have := surR_quar eq n
              rw [show i + 1 + n = vs.length by omega] at this
              unfold sureR at q
              rw [if_pos this] at q
              refine go ok_X2_sureAt ?_
              exact q
  refine Con.of ok_X2_sureAt (nones := [none, none]) rfl (by simp) ?_
  refine go ok_X2_sureAt ?_
  exact lp vs.length 0 (by omega) rfl
end C3

