/-! ===== the reference: could, state ===== -/
def befR (D : List LK) (vs : List Nat) (t : Int32) : Nat → Option Nat
  | 0 => none
  | i + 1 => if hrD D (gN vs i) < t then some (gN vs i) else befR D vs t i
def aftR (D : List LK) (vs : List Nat) (t : Int32) : Nat → Option Nat
  | 0 => none
  | i + 1 => if (aftR D vs t i).isNone ∧ t < hrD D (gN vs i) then some (gN vs i) else aftR D vs t i
def couldR (D : List LK) (cl : Int64) (pt : Int32) (vs : List Nat) (l : Nat) (t : Int32) (qu : Bool) : Bool :=
  if qu then (List.range vs.length).any (fun i => clm D cl pt vs t i && alk D cl l (gN vs i)) else (befR D vs t vs.length).any (alk D cl l) || (aftR D vs t vs.length).any (alk D cl l)
def stateR (D : List LK) (cl : Int64) (pt : Int32) (vs : List Nat) (l : Nat) (t : Int32) : Int32 :=
  if (surR D cl pt vs t vs.length).2 then b2i (couldR D cl pt vs l t true) else match (surR D cl pt vs t vs.length).1 with
    | some f => if alk D cl l f then 2 else 0
    | none => b2i (couldR D cl pt vs l t false)
theorem befR_in {D : List LK} {vs : List Nat} {t : Int32} : ∀ (i : Nat) (k : Nat), befR D vs t i = some k → ∃ j, j < i ∧ k = gN vs j
  | 0, k, h => by cases h
  | i + 1, k, h => by
    unfold befR at h
    split at h
    · exact ⟨i, by omega, by simpa using h.symm⟩
    · obtain ⟨j, hj, e⟩ := befR_in i k h
      exact ⟨j, by omega, e⟩
theorem aftR_in {D : List LK} {vs : List Nat} {t : Int32} : ∀ (i : Nat) (k : Nat), aftR D vs t i = some k → ∃ j, j < i ∧ k = gN vs j
  | 0, k, h => by cases h
  | i + 1, k, h => by
    unfold aftR at h
    split at h
    · exact ⟨i, by omega, by simpa using h.symm⟩
    · obtain ⟨j, hj, e⟩ := aftR_in i k h
      exact ⟨j, by omega, e⟩
section R5
variable {l : Launch} {w : WD} {d : Nat} {h : AH} {Q : Option AV → AH → Prop} {D : List LK} {cl : Int64} {pt : Int32} {vs : List Nat}
theorem r_one {b : Bool} (q : Q (some (vi (b2i b))) h) : Con l w true d HX9_one [vi (b2i b)] h 0 0 Q := by
  refine Con.of ok_X9_one (nones := []) rfl (by simp) ?_
  refine go ok_X9_one ?_
  refine And.intro (fun c => ?_) (fun c => ?_)
  · refine go ok_X9_one ?_
    rw [b2i_eq.mp c] at q
    exact q
  · refine go ok_X9_one ?_
    rw [b2i_ne.mp c] at q
    exact q
theorem r_could_loop (hM : M3 D h) (hP : M5a cl pt h) (hV : VR D vs h) {t : Int32} {k : Nat} (hk : k < D.length) {qu : Bool} (q : Q (some (vi (b2i (couldR D cl pt vs k t qu)))) h) : ∀ (n i : Nat), i + n = vs.length → (qu = true → ∀ j, j < i → (clm D cl pt vs t j && alk D cl k (gN vs j)) = false) →
    Ex l w true mX9_could (d + 2) Q 9 [some (vr 62), some (vi (nI k)), some (vi t), some (vi (b2i qu)), some (vi (oi (befR D vs t i))), some (vi (oi (aftR D vs t i))), some (vi (nI i))] [] h 0 0 := by
  have hD := hM.2.1
  have hvl := hV.2.2.2
  intro n
  induction n with
  | zero =>
    intro i hi hq
    have : i = vs.length := by omega
    subst this
    have hb : ∀ k, befR D vs t vs.length = some k → k < D.length := fun k hk => by
      obtain ⟨j, hj, e⟩ := befR_in _ k hk
      rw [e]
      exact hV.2.2.1 j hj
    have ha : ∀ k, aftR D vs t vs.length = some k → k < D.length := fun k hk => by
      obtain ⟨j, hj, e⟩ := aftR_in _ k hk
      rw [e]
      exact hV.2.2.1 j hj
    refine go ok_X9_could ?_
    refine And.intro (fun c => ?_) (fun c => ?_)
    · refine go ok_X9_could ?_
      refine And.intro (fun c2 => ?_) (fun c2 => ?_)
      · -- quarrel: none was found
        have c3 := b2i_ne.mp c2
        subst c3
        refine go ok_X9_could ?_
        refine And.intro (Or.inl rfl) ?_
        have e : couldR D cl pt vs k t true = false := by
          unfold couldR
          rw [if_pos rfl, List.any_eq_false]
          intro j hj
          rw [hq rfl j (List.mem_range.mp hj)]
          decide
        rw [e] at q
        exact q
      · have c3 := b2i_eq.mp c2
        subst c3
        unfold couldR at q
        rw [if_neg (by decide)] at q
        have k139 : (befR D vs t vs.length).any (alk D cl k) = false → Ex l w true mX9_could (d + 2) Q 139 [some (vr 62), some (vi (nI k)), some (vi t), some (vi (b2i false)), some (vi (oi (befR D vs t vs.length))), some (vi (oi (aftR D vs t vs.length))), some (vi (nI vs.length))] [] h 0 0 := by
          intro e
          rw [e, Bool.false_or] at q
          refine go ok_X9_could ?_
          refine And.intro (fun c4 => ?_) (fun c4 => ?_)
          · refine go ok_X9_could ?_
            refine And.intro (Or.inl rfl) ?_
            rw [(oi_neg (fun k hk => by have := ha k hk; omega)).mp c4] at q
            exact q
          · cases ea : aftR D vs t vs.length with
            | none => rw [ea] at c4; exact absurd (by decide) c4
            | some f =>
              rw [ea] at q
              refine go ok_X9_could ?_
              refine Cal.z (r_areAlike hM hP.1 hk (ha f ea) ?_)
              refine go ok_X9_could ?_
              refine And.intro (fun c5 => ?_) (fun c5 => ?_)
              · refine go ok_X9_could ?_
                refine And.intro (Or.inl rfl) ?_
                rw [Option.any_some, b2i_eq.mp c5] at q
                exact q
              · refine go ok_X9_could ?_
                refine And.intro (Or.inr rfl) ?_
                rw [Option.any_some, b2i_ne.mp c5] at q
                exact q
        refine go ok_X9_could ?_
        refine And.intro (fun c4 => ?_) (fun c4 => ?_)
        · refine k139 ?_
          rw [(oi_neg (fun k hk => by have := hb k hk; omega)).mp c4]
          rfl
        · cases eb : befR D vs t vs.length with
          | none => rw [eb] at c4; exact absurd (by decide) c4
          | some f =>
            rw [eb] at q k139
            refine go ok_X9_could ?_
            refine Cal.z (r_areAlike hM hP.1 hk (hb f eb) ?_)
            refine go ok_X9_could ?_
            refine And.intro (fun c5 => ?_) (fun c5 => ?_)
            · refine go ok_X9_could ?_
              refine And.intro (Or.inr rfl) ?_
              rw [Option.any_some, b2i_ne.mp c5] at q
              exact q
            · refine k139 ?_
              rw [Option.any_some, b2i_eq.mp c5]
    · exact absurd (show hI h 656 62 ≤ nI vs.length by rw [hV.1]; exact nI_le (Nat.le_refl _) (by omega)) c
  | succ n ih =>
    intro i hi hq
    have hlt : i < vs.length := by omega
    have hl := hV.2.2.1 i hlt
    have dl := hM.2.2 _ hl
    have ei : (aI h 72).getD (nI i).toNatClampNeg 0 = nI (gN vs i) := by rw [nI_clamp (by omega)]; exact hV.2.1 i hlt
    have el : (nI (gN vs i)).toNatClampNeg = gN vs i := nI_clamp (by omega)
    refine Ex.lay (fun hy => ?_)
    have k49 : (qu = true → (clm D cl pt vs t i && alk D cl k (gN vs i)) = false) → Ex l w true mX9_could (d + 2) Q 49 [some (vr 62), some (vi (nI k)), some (vi t), some (vi (b2i qu)), some (vi (oi (befR D vs t i))), some (vi (oi (aftR D vs t i))), some (vi (nI i))] [] h 0 0 := by
      intro hq2
      have ih' := ih (i + 1) (by omega) (fun z j hj => by
        by_cases c : j = i
        · subst c; exact hq2 z
        · exact hq z j (by omega))
      have k77 : Ex l w true mX9_could (d + 2) Q 77 [some (vr 62), some (vi (nI k)), some (vi t), some (vi (b2i qu)), some (vi (oi (befR D vs t i))), some (vi (oi (aftR D vs t i))), some (vi (nI i))] [vi (oi (befR D vs t (i + 1)))] h 0 0 := by
        have k110 : aftR D vs t (i + 1) = aftR D vs t i → Ex l w true mX9_could (d + 2) Q 110 [some (vr 62), some (vi (nI k)), some (vi t), some (vi (b2i qu)), some (vi (oi (befR D vs t (i + 1)))), some (vi (oi (aftR D vs t i))), some (vi (nI i))] [] h 0 0 := by
          intro e
          rw [e, ← nI_1] at ih'
          refine go ok_X9_could ?_
          refine go ok_X9_could ?_
          exact ih'
        refine go ok_X9_could ?_
        refine And.intro (fun c2 => ?_) (fun c2 => ?_)
        · refine k110 ?_
          rw [aftR, if_neg]
          intro z
          rw [Option.isNone_iff_eq_none.mp z.1] at c2
          exact absurd c2 (by decide)
        · have hn : aftR D vs t i = none := by
            cases ea : aftR D vs t i with
            | none => rfl
            | some f =>
              rw [ea] at c2
              obtain ⟨j, hj, e⟩ := aftR_in _ f ea
              exact absurd (nI_pos' (by have := hV.2.2.1 j (by omega); rw [← e] at this; omega)) c2
          refine go ok_X9_could ?_
          refine And.intro (ix72 hy rfl (by omega)) (And.intro (ix65 hy ei (by omega)) ?_)
          rw [ei, el, dl.2.1]
          refine And.intro (fun c3 => ?_) (fun c3 => ?_)
          · refine k110 ?_
            rw [aftR, if_neg]
            intro z
            exact absurd z.2 (by simpa using c3)
          · refine go ok_X9_could ?_
            refine And.intro (ix72 hy rfl (by omega)) ?_
            rw [ei]
            have e : aftR D vs t (i + 1) = some (gN vs i) := by
              rw [aftR, if_pos ⟨by rw [hn]; rfl, by simpa using c3⟩]
            rw [e, ← nI_1] at ih'
            refine go ok_X9_could ?_
            exact ih'
      refine go ok_X9_could ?_
      refine And.intro (ix72 hy rfl (by omega)) (And.intro (ix65 hy ei (by omega)) ?_)
      rw [ei, el, dl.2.1]
      refine And.intro (fun c3 => ?_) (fun c3 => ?_)
      · refine go ok_X9_could ?_
        have e : befR D vs t (i + 1) = befR D vs t i := by
          rw [befR, if_neg (by simpa using c3)]
        rw [e] at k77
        exact k77
      · refine go ok_X9_could ?_
        refine And.intro (ix72 hy rfl (by omega)) ?_
        rw [ei]
        have e : befR D vs t (i + 1) = some (gN vs i) := by
          rw [befR, if_pos (by simpa using c3)]
        rw [e] at k77
        exact k77
    refine go ok_X9_could ?_
    refine And.intro (fun c => ?_) (fun c => ?_)
    · exact absurd (show nI vs.length ≤ nI i by rw [← hV.1]; exact c) (nI_ge hlt (by omega))
    · refine go ok_X9_could ?_
      refine And.intro (fun c2 => ?_) (fun c2 => ?_)
      · exact k49 (fun z => by rw [z] at c2; exact absurd c2 (by decide))
      · have c2' := b2i_ne.mp c2
        refine go ok_X9_could ?_
        refine Cal.z (r_claims hM hP hV hlt ?_)
        refine go ok_X9_could ?_
        refine And.intro (fun c3 => ?_) (fun c3 => ?_)
        · exact k49 (fun _ => by rw [b2i_eq.mp c3]; rfl)
        · have c3' := b2i_ne.mp c3
          refine go ok_X9_could ?_
          refine And.intro (ix72 hy rfl (by omega)) ?_
          rw [ei]
          refine Cal.z (r_areAlike hM hP.1 hk hl ?_)
          refine go ok_X9_could ?_
          refine And.intro (fun c4 => ?_) (fun c4 => ?_)
          · exact k49 (fun _ => by rw [b2i_eq.mp c4, Bool.and_false])
          · refine go ok_X9_could ?_
            refine And.intro (Or.inr rfl) ?_
            have e : couldR D cl pt vs k t qu = true := by
              rw [couldR, if_pos c2', List.any_eq_true]
              exact ⟨i, List.mem_range.mpr hlt, by rw [c3', b2i_ne.mp c4]; rfl⟩
            rw [e] at q
            exact q
theorem r_could (hM : M3 D h) (hP : M5a cl pt h) (hV : VR D vs h) {t : Int32} {k : Nat} (hk : k < D.length) {qu : Bool} (q : Q (some (vi (b2i (couldR D cl pt vs k t qu)))) h) : Con l w true (d + 2) HX9_could [vr 62, vi (nI k), vi t, vi (b2i qu)] h 0 0 Q := by
  refine Con.of ok_X9_could (nones := [none, none, none]) rfl (by simp) ?_
  refine go ok_X9_could ?_
  exact r_could_loop hM hP hV hk q vs.length 0 (by omega) (fun _ j hj => absurd hj (Nat.not_lt_zero _))
theorem gN_mem {L : List Nat} {i : Nat} (hi : i < L.length) : gN L i ∈ L := by
  unfold gN
  rw [List.getD_eq_getElem?_getD, List.getElem?_eq_getElem hi]
  exact List.getElem_mem hi
theorem vws_in {p i : Nat} (hi : i < (vws D p).length) : gN (vws D p) i < D.length ∧ pgD D (gN (vws D p) i) = p ∧ isV D (gN (vws D p) i) = true := by
  have h1 := List.mem_filter.mp (gN_mem hi)
  have h2 := h1.2
  simp only [Bool.and_eq_true, decide_eq_true_eq] at h2
  exact ⟨List.mem_range.mp h1.1, h2.1, h2.2⟩
theorem vws_len (D : List LK) (p : Nat) : (vws D p).length ≤ D.length := vwsUp_le D p D.length
theorem VR.of {r : List Int32} {p : Nat} (hM : M3 D h) (hr : rowIs r (vws D p)) : VR D (vws D p) (vw h r (nI (vws D p).length)) :=
  ⟨rfl, hr, fun i hi => (vws_in hi).1, Nat.le_trans (vws_len D p) hM.2.1⟩
theorem M5a.vw {r : List Int32} {v : Int32} (hP : M5a cl pt h) : M5a cl pt (vw h r v) := hP
theorem r_stateAt (hM : M3 D h) (hP : M5a cl pt h) {t : Int32} {k : Nat} (hk : k < D.length) (q : ∀ r, r.length = 100 → rowIs r (vws D (pgD D k)) → Q (some (vi (stateR D cl pt (vws D (pgD D k)) k t))) (vw h r (nI (vws D (pgD D k)).length))) : Con l w true (d + 4) HX9_stateAt [vr 62, vi (nI k), vi t] h 0 0 Q := by
  have hD := hM.2.1
  have dk := hM.2.2 k hk
  have ek : (nI k).toNatClampNeg = k := nI_clamp (by omega)
  refine Con.of ok_X9_stateAt (nones := [none]) rfl (by simp) ?_
  refine Ex.lay (fun hy => ?_)
  refine go ok_X9_stateAt ?_
  refine And.intro (ix64 hy rfl (by omega)) ?_
  rw [ek, dk.1]
  refine Cal.z (r_findViews hM (by omega) (fun r hr hrow => ?_))
  have q := q r hr hrow
  have hV := VR.of hM hrow
  have hM' : M3 D (vw h r (nI (vws D (pgD D k)).length)) := M3.vw hM
  have hP' : M5a cl pt (vw h r (nI (vws D (pgD D k)).length)) := M5a.vw hP
  generalize vws D (pgD D k) = vs at hV q hM' hP'
  generalize vw h r (nI vs.length) = h' at hV q hM' hP'
  refine go ok_X9_stateAt ?_
  refine Cal.z (r_sureAt hM' hP' hV ?_)
  have hin := surR_in (D := D) (cl := cl) (pt := pt) (vs := vs) (t := t) vs.length (Nat.le_refl _)
  unfold sureR
  unfold stateR at q
  cases hq : (surR D cl pt vs t vs.length).2 with
  | true =>
    rw [hq, if_pos rfl] at q
    rw [if_pos rfl]
    refine go ok_X9_stateAt ?_
    refine And.intro (fun c => ?_) (fun c => ?_)
    · refine go ok_X9_stateAt ?_
      refine And.intro (fun c2 => ?_) (fun c2 => ?_)
      · exact absurd rfl c2
      · refine go ok_X9_stateAt ?_
        refine Cal.z (r_could (qu := true) hM' hP' hV hk ?_)
        refine go ok_X9_stateAt ?_
        refine Cal.z (r_one ?_)
        refine go ok_X9_stateAt ?_
        exact q
    · exact absurd (by decide) c
  | false =>
    rw [hq, if_neg (by decide)] at q
    rw [if_neg (by decide)]
    cases hf : (surR D cl pt vs t vs.length).1 with
    | none =>
      rw [hf] at q
      refine go ok_X9_stateAt ?_
      refine And.intro (fun c => ?_) (fun c => ?_)
      · refine go ok_X9_stateAt ?_
        refine And.intro (fun c2 => ?_) (fun c2 => ?_)
        · refine go ok_X9_stateAt ?_
          refine Cal.z (r_could (qu := false) hM' hP' hV hk ?_)
          refine go ok_X9_stateAt ?_
          refine Cal.z (r_one ?_)
          refine go ok_X9_stateAt ?_
          exact q
        · exact absurd c2 (by decide)
      · exact absurd (by decide) c
    | some f =>
      rw [hf] at q
      dsimp only at q
      obtain ⟨j, hj, e⟩ := hin f hf
      have hfD : f < D.length := by rw [e]; exact hV.2.2.1 j hj
      refine go ok_X9_stateAt ?_
      refine And.intro (fun c => ?_) (fun c => ?_)
      · exact absurd c (nI_pos (by omega))
      · refine go ok_X9_stateAt ?_
        refine Cal.z (r_areAlike hM' hP'.1 hk hfD ?_)
        refine go ok_X9_stateAt ?_
        refine And.intro (fun c2 => ?_) (fun c2 => ?_)
        · refine go ok_X9_stateAt ?_
          rw [b2i_eq.mp c2, if_neg (by decide)] at q
          exact q
        · refine go ok_X9_stateAt ?_
          rw [if_pos (b2i_ne.mp c2)] at q
          exact q
end R5

