/-! ===== the class: part ===== -/
section C41
variable {l : Launch} {w : WD} {d : Nat} {h h' : AH} {Q : Option AV → AH → Prop} {S S' : SG} {G G' : GH}
theorem hasPg_mono {k : Nat} : ∀ n i, i ≤ n → hasPg S k i = true → hasPg S k n = true := by
  intro n
  induction n with
  | zero => intro i hi h; have : i = 0 := by omega
            subst this; exact h
  | succ n ih =>
    intro i hi h
    by_cases c : i = n + 1
    · subst c; exact h
    · rw [hasPg, ih i (by omega) h, Bool.true_or]
theorem c_hasPage (hc : RC S G h) (hv : Inv S) (h8 : (gWh S).length ≤ 8) {k : Nat} (hk : k < (gD S).length) (q : Q (some (vi (b2i (hasPg S k (gWh S).length)))) h) : Con l w true (d + 3) HX7_hasPage [vr 38, vr (gN (gPa G) (pgD (gD S) k))] h 0 0 Q := by
  have hpk := hv.pg hk
  have lp : ∀ n i, i + n = (gWh S).length → hasPg S k i = false → Ex l w true mX7_hasPage (d + 3) Q 2 [some (vr 38), some (vr (gN (gPa G) (pgD (gD S) k))), some (vi (nI i))] [] h 0 0 := by
    intro n
    induction n with
    | zero =>
      intro i hi hf
      have : i = (gWh S).length := by omega
      subst this
      rw [hf] at q
      refine go ok_X7_hasPage ?_
      refine And.intro hc.wh.1 ?_
      refine Cal.z (j_size hc.wh ?_)
      rw [vwA_len]
      refine go ok_X7_hasPage ?_
      refine asAnd ?_
      rw [nI_leI (by omega) (by omega)]
      refine And.intro (fun c => ?_) (fun c => ?_)
      · refine go ok_X7_hasPage ?_
        refine And.intro (Or.inl rfl) ?_
        exact q
      · omega
    | succ n ih =>
      intro i hi hf
      have hwi := hv.wh (i := i) (by omega)
      have hpi := hv.pg hwi
      have hm := hc.home hwi
      refine go ok_X7_hasPage ?_
      refine And.intro hc.wh.1 ?_
      refine Cal.z (j_size hc.wh ?_)
      rw [vwA_len]
      refine go ok_X7_hasPage ?_
      refine asAnd ?_
      rw [nI_leI (by omega) (by omega)]
      refine And.intro (fun c => ?_) (fun c => ?_)
      · omega
      · refine go ok_X7_hasPage ?_
        refine And.intro hc.wh.1 ?_
        refine Cal.z (j_get hc.wh (by rw [vwA_len]; omega) ?_)
        rw [gN_vwA (by omega)]
        refine go ok_X7_hasPage ?_
        refine And.intro (Or.inr hm.1) ?_
        refine And.intro hm.1 ?_
        refine asAnd ?_
        rw [hm.2]
        have p1 := (hc.pgs.2.2 _ hpi).1.2
        have p2 := (hc.pgs.2.2 _ hpk).1.2
        refine And.intro (Or.inr ⟨by unfold rOK; omega, by unfold rOK; omega⟩) ?_
        refine And.intro (fun c2 => ?_) (fun c2 => ?_)
        · have hh := ih (i + 1) (by omega) (by rw [hasPg, hf, decide_eq_false (fun z => c2 (by rw [z]))]; rfl)
          rw [← nI_1] at hh
          refine go ok_X7_hasPage ?_
          exact hh
        · have e : pgD (gD S) (gN (gWh S) i) = pgD (gD S) k := hc.pa_inj hpi hpk c2
          rw [hasPg_mono (gWh S).length (i + 1) (by omega) (by rw [hasPg, decide_eq_true e, Bool.or_true])] at q
          refine go ok_X7_hasPage ?_
          refine And.intro (Or.inr rfl) ?_
          exact q
  refine Con.of ok_X7_hasPage (nones := [none]) rfl (by simp) ?_
  refine go ok_X7_hasPage ?_
  exact lp (gWh S).length 0 (by omega) rfl
theorem c_part (hc : RC S G h) (hv : Inv S) (h8 : (gWh S).length ≤ 8) {x : Int32} (qq : ∀ G' h', RC (partF S x).2 G' h' → OX h h' → Q (some (vi (partF S x).1)) h') : Con l w true (d + 7) HX8_part [vr 32, vi x] h 1 150 Q := by
  refine Con.of ok_X8_part (nones := [none]) rfl (by simp) ?_
  refine Ex.lay (fun hy => ?_)
  refine Ex.old (fun ho hz => ?_)
  refine go ok_X8_part ?_
  refine Cal.z (k_viewAt hc (fun e => ?_) (fun k hk ek hvk e hn => ?_))
  · rw [partF, e] at qq
    refine go ok_X8_part ?_
    refine And.intro (fun c => absurd c (by decide)) (fun c => ?_)
    refine go ok_X8_part ?_
    exact qq G h hc (OX.rf h)
  · rw [partF, e] at qq
    dsimp only at qq
    have hm := hc.home hk
    have l88 := (hc.lks.2 k hk).1.2
    have k35 : ¬ (kdD (gD S) k = 0 ∧ hasPg S k (gWh S).length = false) → Ex l w true mX8_part (d + 7) Q 35 [some (vr 32), some (vi x), some (vr (gN (gLa G) k))] [] h 1 150 := by
      intro z
      rw [if_neg z] at qq
      refine go ok_X8_part ?_
      exact qq G h hc (OX.rf h)
    refine go ok_X8_part ?_
    refine And.intro (fun c => ?_) (fun c => absurd c hn)
    refine go ok_X8_part ?_
    refine And.intro hm.1 ?_
    refine Cal.z (c_isSeen hm.1 (hc.lks.2 k hk).2.2.2.2.1 ?_)
    by_cases c1 : kdD (gD S) k = 0
    · rw [decide_eq_true c1]
      refine go ok_X8_part ?_
      refine And.intro (fun c2 => absurd c2 (by decide)) (fun c2 => ?_)
      refine go ok_X8_part ?_
      refine And.intro hm.1 ?_
      refine asCal ?_
      rw [hm.2]
      refine Cal.z (c_hasPage hc hv h8 hk ?_)
      cases c3 : hasPg S k (gWh S).length with
      | true =>
        refine go ok_X8_part ?_
        refine And.intro (fun c4 => absurd c4 (by decide)) (fun c4 => ?_)
        exact k35 (fun z => by rw [c3] at z; cases z.2)
      | false =>
        rw [if_pos ⟨c1, c3⟩] at qq
        refine go ok_X8_part ?_
        refine And.intro (fun c4 => ?_) (fun c4 => absurd c4 (by decide))
        refine go ok_X8_part ?_
        refine And.intro hc.wh.1 ?_
        refine Cal.z (j_size hc.wh ?_)
        rw [vwA_len]
        refine go ok_X8_part ?_
        refine asAnd ?_
        rw [show (8 : Int32) = nI 8 from rfl, nI_ltI (by omega) (by omega)]
        refine And.intro (fun c5 => ?_) (fun c5 => ?_)
        · rw [if_neg (by omega)] at qq
          refine go ok_X8_part ?_
          refine And.intro hc.wh.1 ?_
          refine Cal.k 1 150 (c2 := 0) (s2 := 0) rfl rfl (j_add hc.wh (by rw [vwA_len]; omega) (Or.inr ⟨by omega, Or.inl hm.1⟩) (fun h' hA af hz' => ?_))
          have hA' : AL h' 39 (vwA (gLa G) (gWh S ++ [k])) := by
            unfold vwA at *
            rw [List.map_append]
            exact hA
          obtain ⟨z1, z2⟩ := hc.wh39 hy ho af hA'
          refine go ok_X8_part ?_
          refine And.intro hA'.1 ?_
          refine Cal.z (j_size hA' ?_)
          rw [vwA_len, show (gWh S ++ [k]).length = (gWh S).length + 1 by rw [List.length_append]; rfl]
          refine go ok_X8_part ?_
          exact qq _ h' z1 z2
        · rw [if_pos (by omega)] at qq
          refine go ok_X8_part ?_
          exact qq G h hc (OX.rf h)
    · rw [decide_eq_false c1]
      refine go ok_X8_part ?_
      refine And.intro (fun c2 => ?_) (fun c2 => absurd c2 (by decide))
      exact k35 (fun z => c1 z.1)
end C41

