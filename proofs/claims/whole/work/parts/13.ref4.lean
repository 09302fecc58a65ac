/-! ===== the reference: sure, could, state ===== -/
def oi (o : Option Nat) : Int32 := match o with
  | none => -1
  | some k => nI k
theorem oi_neg {o : Option Nat} (ho : ∀ k, o = some k → k < 2 ^ 31) : oi o < 0 ↔ o = none := by
  cases o with
  | none => simp [oi]
  | some k => simp only [oi]; exact ⟨fun z => absurd z (nI_pos (ho k rfl)), fun z => by cases z⟩
def surR (D : List LK) (cl : Int64) (pt : Int32) (vs : List Nat) (t : Int32) : Nat → Option Nat × Bool
  | 0 => (none, false)
  | i + 1 => if clm D cl pt vs t i then ((surR D cl pt vs t i).1.or (some (gN vs i)), (surR D cl pt vs t i).2 || ((surR D cl pt vs t i).1.any (fun f => !alk D cl f (gN vs i)))) else surR D cl pt vs t i
def sureR (D : List LK) (cl : Int64) (pt : Int32) (vs : List Nat) (t : Int32) : Int32 := if (surR D cl pt vs t vs.length).2 then -2 else oi (surR D cl pt vs t vs.length).1
theorem surR_in {D : List LK} {cl : Int64} {pt : Int32} {vs : List Nat} {t : Int32} : ∀ (i : Nat), i ≤ vs.length → ∀ k, (surR D cl pt vs t i).1 = some k → ∃ j, j < i ∧ k = gN vs j
  | 0, _, k, h => by cases h
  | i + 1, hi, k, h => by
    unfold surR at h
    split at h
    · dsimp only at h
      cases e : (surR D cl pt vs t i).1 with
      | none =>
        rw [e] at h
        exact ⟨i, by omega, by simpa using h.symm⟩
      | some f =>
        rw [e] at h
        obtain ⟨j, hj, hk⟩ := surR_in i (by omega) f e
        exact ⟨j, by omega, by rw [← hk]; simpa using h.symm⟩
    · obtain ⟨j, hj, hk⟩ := surR_in i (by omega) k h
      exact ⟨j, by omega, hk⟩
section R4
variable {l : Launch} {w : WD} {d : Nat} {h : AH} {Q : Option AV → AH → Prop} {D : List LK} {cl : Int64} {pt : Int32} {vs : List Nat}
theorem r_sureAt_loop (hM : M3 D h) (hP : M5a cl pt h) (hV : VR D vs h) {t : Int32} (q : Q (some (vi (sureR D cl pt vs t))) h) : ∀ (n i : Nat), i + n = vs.length →
    Ex l w true mX9_sureAt (d + 2) Q 7 [some (vr 62), some (vi t), some (vi (oi (surR D cl pt vs t i).1)), some (vi (b2i (surR D cl pt vs t i).2)), some (vi (nI i))] [] h 0 0 := by
  have hD := hM.2.1
  have hvl := hV.2.2.2
  intro n
  induction n with
  | zero =>
    intro i hi
    have : i = vs.length := by omega
    subst this
    refine go ok_X9_sureAt ?_
    refine And.intro (fun c => ?_) (fun c => ?_)
    · refine go ok_X9_sureAt ?_
      refine And.intro (fun c2 => ?_) (fun c2 => ?_)
      · refine go ok_X9_sureAt ?_
        rw [sureR, b2i_eq.mp c2] at q
        exact q
      · refine go ok_X9_sureAt ?_
        rw [sureR, b2i_ne.mp c2] at q
        exact q
    · exact absurd (show hI h 656 62 ≤ nI vs.length by rw [hV.1]; exact nI_le (Nat.le_refl _) (by omega)) c
  | succ n ih =>
    intro i hi
    have hlt : i < vs.length := by omega
    have hl := hV.2.2.1 i hlt
    have ei : (aI h 72).getD (nI i).toNatClampNeg 0 = nI (gN vs i) := by rw [nI_clamp (by omega)]; exact hV.2.1 i hlt
    have hf : ∀ k, (surR D cl pt vs t i).1 = some k → k < D.length := by
      intro k hk
      obtain ⟨j, hj, e⟩ := surR_in i (by omega) k hk
      rw [e]
      exact hV.2.2.1 j (by omega)
    have ih' := ih (i + 1) (by omega)
    refine Ex.lay (fun hy => ?_)
    refine go ok_X9_sureAt ?_
    refine And.intro (fun c => ?_) (fun c => ?_)
    · exact absurd (show nI vs.length ≤ nI i by rw [← hV.1]; exact c) (nI_ge hlt (by omega))
    · refine go ok_X9_sureAt ?_
      refine Cal.z (r_claims hM hP hV hlt ?_)
      refine go ok_X9_sureAt ?_
      refine And.intro (fun c2 => ?_) (fun c2 => ?_)
      · refine go ok_X9_sureAt ?_
        rw [surR, if_neg (by rw [b2i_eq.mp c2]; decide), ← nI_1] at ih'
        exact ih'
      · rw [surR, if_pos (b2i_ne.mp c2), ← nI_1] at ih'
        dsimp only at ih'
        have k54 : ∀ b : Bool, b = ((surR D cl pt vs t i).2 || ((surR D cl pt vs t i).1.any (fun f => !alk D cl f (gN vs i)))) → Ex l w true mX9_sureAt (d + 2) Q 54 [some (vr 62), some (vi t), some (vi (oi (surR D cl pt vs t i).1)), some (vi (b2i (surR D cl pt vs t i).2)), some (vi (nI i))] [vi (b2i b)] h 0 0 := by
          intro b hb
          rw [← hb] at ih'
          refine go ok_X9_sureAt ?_
          refine And.intro (fun c5 => ?_) (fun c5 => ?_)
          · refine go ok_X9_sureAt ?_
            refine go ok_X9_sureAt ?_
            refine go ok_X9_sureAt ?_
            cases e : (surR D cl pt vs t i).1 with
            | none => rw [e] at c5; exact absurd c5 (by decide)
            | some f => rw [e] at ih'; exact ih'
          · refine go ok_X9_sureAt ?_
            refine And.intro (ix72 hy rfl (by omega)) ?_
            rw [ei]
            refine go ok_X9_sureAt ?_
            refine go ok_X9_sureAt ?_
            cases e : (surR D cl pt vs t i).1 with
            | none => rw [e] at ih'; exact ih'
            | some f => rw [e] at c5; exact absurd (nI_pos' (by have := hf f e; omega)) c5
        refine go ok_X9_sureAt ?_
        refine And.intro (fun c3 => ?_) (fun c3 => ?_)
        · refine go ok_X9_sureAt ?_
          refine k54 true ?_
          rw [b2i_ne.mp c3]
          rfl
        · have c3' := b2i_eq.mp c3
          refine go ok_X9_sureAt ?_
          refine And.intro (fun c4 => ?_) (fun c4 => ?_)
          · refine go ok_X9_sureAt ?_
            refine k54 false ?_
            have := (oi_neg (fun k hk => by have := hf k hk; omega)).mp c4
            rw [this, c3']
            rfl
          · cases e : (surR D cl pt vs t i).1 with
            | none => rw [e] at c4; exact absurd (by decide) c4
            | some f =>
              rw [e] at k54
              refine go ok_X9_sureAt ?_
              refine And.intro (ix72 hy rfl (by omega)) ?_
              rw [ei]
              refine Cal.z (r_areAlike hM hP.1 (hf f e) hl ?_)
              refine go ok_X9_sureAt ?_
              refine And.intro (fun c5 => ?_) (fun c5 => ?_)
              · refine go ok_X9_sureAt ?_
                refine k54 false ?_
                rw [c3']
                simp [b2i_ne.mp c5]
              · refine go ok_X9_sureAt ?_
                refine k54 true ?_
                rw [c3']
                simp [b2i_eq.mp c5]
theorem r_sureAt (hM : M3 D h) (hP : M5a cl pt h) (hV : VR D vs h) {t : Int32} (q : Q (some (vi (sureR D cl pt vs t))) h) : Con l w true (d + 2) HX9_sureAt [vr 62, vi t] h 0 0 Q := by
  refine Con.of ok_X9_sureAt (nones := [none, none, none]) rfl (by simp) ?_
  refine go ok_X9_sureAt ?_
  exact r_sureAt_loop hM hP hV q vs.length 0 (by omega)
end R4

