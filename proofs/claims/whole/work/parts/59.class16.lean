/-! ===== the class: the whole, end ===== -/
theorem RC.si {S : SG} {G : GH} {h : AH} (hc : RC S G h) {f a : Nat} {v : Int32} (hf : (450 ≤ f ∧ f ≤ 575) ∨ (256 ≤ f ∧ f ≤ 319)) : RC S G (sI h f a v) := by
  have e : ∀ k x, ¬ k = f → hI (sI h f a v) k x = hI h k x := fun k x hk => by rw [hI_sI, if_neg (fun z => hk z.1)]
  have e705 := fun x => e 705 x (by omega)
  have e586 := fun x => e 586 x (by omega)
  have e587 := fun x => e 587 x (by omega)
  have e2 := fun x => e 2 x (by omega)
  have e128 := fun x => e 128 x (by omega)
  have e130 := fun x => e 130 x (by omega)
  have e131 := fun x => e 131 x (by omega)
  have e132 := fun x => e 132 x (by omega)
  have e134 := fun x => e 134 x (by omega)
  have e192 := fun x => e 192 x (by omega)
  have e193 := fun x => e 193 x (by omega)
  have e323 := fun x => e 323 x (by omega)
  have e324 := fun x => e 324 x (by omega)
  have e385 := fun x => e 385 x (by omega)
  have e388 := fun x => e 388 x (by omega)
  have e389 := fun x => e 389 x (by omega)
  have e449 := fun x => e 449 x (by omega)
  unfold RC STH LKc PGc PMc RTc TXc PMs OWc isLs isPm AL eOK at *
  simp only [hC_sI, hL_sI, hR_sI, aI_sI, aL_sI, aR_sI, e705, e586, e587, e2, e128, e130, e131, e132, e134, e192, e193, e323, e324, e385, e388, e389, e449]
  exact hc
section C16
variable {l : Launch} {w : WD} {d : Nat} {h g : AH} {Q : Option AV → AH → Prop} {S : SG} {G : GH}
theorem whR_1 {t : Nat} (ht : t ≤ 3001) : whR S (t + 1) = wRun (gWh S).length (whR S t) (nI t) (offR S (nI t) (gWh S).length) (nonR S (nI t) (gWh S).length) 1 := whR_run ht 0 (fun j hj => by
  have : j = 0 := by omega
  subst this
  exact ⟨rfl, rfl⟩)
theorem lv0 : ∀ n, n < 9 → (0 : Int32) ≤ (1 <<< (nI n &&& 31)) - 1 := by decide
theorem whR_winv (h8 : (gWh S).length ≤ 8) : ∀ t, t ≤ 3001 → winv (whR S t) ∧ (1 ≤ t → 0 ≤ (whR S t).2.2.2.2.1)
  | 0, _ => ⟨⟨Or.inl rfl, Or.inl rfl, lv0 _ (by omega)⟩, fun z => by omega⟩
  | t + 1, ht => by
    have ih := whR_winv h8 t (by omega)
    rw [whR_1 (by omega)]
    have := winv_run (n := (gWh S).length) (t := nI t) (nn := nonR S (nI t) (gWh S).length) (m := 1) ih.1 (nI_pos' (by omega)) (off_ons (S := S) (t := nI t) h8).1
    exact ⟨this.1, fun _ => this.2⟩
theorem yC_run (h8 : (gWh S).length ≤ 8) {t m : Nat} (ht : t + (m + 1) ≤ 3001) (hcst : ∀ j, j < m + 1 → offR S (nI (t + j)) (gWh S).length = offR S (nI t) (gWh S).length ∧ nonR S (nI (t + j)) (gWh S).length = nonR S (nI t) (gWh S).length) : cRun (gWh S).length (yC S t) (nI t) (offR S (nI t) (gWh S).length) (nonR S (nI t) (gWh S).length) (nI (m + 1)) = yC S (t + (m + 1)) := by
  have e1 : yC S (t + (m + 1)) = whR S (t + (m + 1)) := by unfold yC; rw [if_neg (by omega)]
  rw [e1, whR_run (by omega) m hcst]
  obtain ⟨⟨i1, i2, i3⟩, i5⟩ := whR_winv h8 t (by omega)
  obtain ⟨o0, c, hc, eo⟩ := off_ons (S := S) (t := nI t) (n := (gWh S).length) h8
  generalize hoff : offR S (nI t) (gWh S).length = off at *
  by_cases ct : t = 0
  · subst ct
    have e2 : yC S 0 = ((-1, 0, -1, (1 <<< (nI (gWh S).length &&& 31)) - 1, 0, -1, 0) : WT) := rfl
    have e3 : whR S 0 = ((-1, 0, -1, (1 <<< (nI (gWh S).length &&& 31)) - 1, -1, 0, 0) : WT) := rfl
    rw [e2, e3]
    refine cRun_eq (Or.inl rfl) (Or.inl rfl) (Or.inr ⟨by decide, ?_⟩)
    rw [eo, i32_sub_nI hc]
    have h1 := nI_pos' (n := (gWh S).length - c) (by omega)
    rw [Int32.lt_iff_toInt_lt]
    rw [Int32.le_iff_toInt_le] at h1
    simp at h1 ⊢
    omega
  · have e2 : yC S t = whR S t := by unfold yC; rw [if_neg ct]
    rw [e2]
    have i5' := i5 (by omega)
    generalize whR S t = x at *
    obtain ⟨x1, x2, x3, x4, x5, x6, x7⟩ := x
    exact cRun_eq i1 i2 (Or.inl ⟨rfl, rfl, rfl, i5'⟩)
theorem c_weigh (hc : RC S G h) (hv : Inv S) (h8 : (gWh S).length ≤ 8) {n0 : Nat} (hn0 : n0 ≤ 3000) (q : ∀ h', RC S G h' → OX h h' → CWF (whR S (n0 + 1)) h' → Q none h') : Con l w true (d + 7) HX7_weigh [vr 38, vi (nI n0), vr (hR h 583 32)] h 0 0 Q := by
  have main : ∀ f t l4 g, n0 + 1 - t ≤ f → t ≤ n0 + 1 → RC S G g → OX h g → hR g 583 32 = hR h 583 32 → CWF (yC S t) g → CVc S t (aI g 40) (aI g 41) → Ex l w true mX7_weigh (d + 7) Q 70 [some (vr 38), some (vi (nI n0)), some (vr (hR h 583 32)), some (vi (nI t)), l4] [] g 0 0 := by
    intro f
    induction f with
    | zero =>
      intro t l4 g hf ht hcg hox e583 hw hcv
      have : t = n0 + 1 := by omega
      subst this
      refine go ok_X7_weigh ?_
      refine asAnd ?_
      rw [nI_ltI (by omega) (by omega)]
      refine And.intro (fun c => ?_) (fun c => ?_)
      · refine go ok_X7_weigh ?_
        refine q g hcg hox ?_
        have e : yC S (n0 + 1) = whR S (n0 + 1) := by unfold yC; rw [if_neg (by omega)]
        rw [← e]
        exact hw
      · omega
    | succ f ih =>
      intro t l4 g hf ht hcg hox e583 hw hcv
      by_cases ct : t = n0 + 1
      · subst ct
        refine go ok_X7_weigh ?_
        refine asAnd ?_
        rw [nI_ltI (by omega) (by omega)]
        refine And.intro (fun c => ?_) (fun c => ?_)
        · refine go ok_X7_weigh ?_
          refine q g hcg hox ?_
          have e : yC S (n0 + 1) = whR S (n0 + 1) := by unfold yC; rw [if_neg (by omega)]
          rw [← e]
          exact hw
        · omega
      · have eg : tI (tI g 40 (aI g 40)) 41 (aI g 41) = g := by
          rw [tI_self]
          exact tI_self g 41
        have hst := fun K hK => c_stepTo (l := l) (w := w) (d := d) (Q := K) hcg hv h8 (t := t) (by omega) hcv hK
        rw [eg, e583] at hst
        refine go ok_X7_weigh ?_
        refine asAnd ?_
        rw [nI_ltI (by omega) (by omega)]
        refine And.intro (fun c => ?_) (fun c => ?_)
        · omega
        · refine go ok_X7_weigh ?_
          refine Cal.z (hst _ (fun st' un' nx hcv' h1 h2 h3 => ?_))
          -- the next hour
          generalize hne : (if n0 + 1 < nx then n0 + 1 else nx) = ne at *
          have hne1 : t < ne ∧ ne ≤ n0 + 1 ∧ ne ≤ nx := by subst hne; split <;> omega
          have emm : (if nI t + 1 < (if nI nx < nI n0 + 1 then nI nx else nI n0 + 1) then (if nI nx < nI n0 + 1 then nI nx else nI n0 + 1) else nI t + 1) = nI ne := by
            rw [nI_1, nI_1, nI_min (by omega) (by omega), nI_max (by omega) (by split <;> omega)]
            congr 1
            subst hne
            (repeat' split) <;> omega
          have hcg2 : RC S G (tI (tI g 40 st') 41 un') := (hcg.ti (by decide)).ti (by decide)
          have hw2 : CWF (yC S t) (tI (tI g 40 st') 41 un') := hw
          have hy4 : 0 ≤ (yC S t).2.2.2.1 := by
            unfold yC
            split
            · exact lv0 _ (by omega)
            · exact (whR_winv h8 t (by omega)).1.2.2
          have hcst : ∀ j, j < (ne - t - 1) + 1 → offR S (nI (t + j)) (gWh S).length = offR S (nI t) (gWh S).length ∧ nonR S (nI (t + j)) (gWh S).length = nonR S (nI t) (gWh S).length := fun j hj => offR_cong _ (fun i hi => by rw [h3 i hi (t + j) (by omega) (by omega), h3 i hi t (by omega) (by omega)])
          have hrun := yC_run (S := S) h8 (t := t) (m := ne - t - 1) (by omega) hcst
          rw [show ne - t - 1 + 1 = ne - t by omega, show t + (ne - t) = ne by omega] at hrun
          refine go ok_X7_weigh ?_
          refine asCal ?_
          rw [emm]
          refine Cal.z (c_weighHours (t := t) (nx := ne) (st := st') hcg2 h8 rfl (fun i hi => h3 i hi t (by omega) (by omega)) hw2 hy4 (fun g3 hc3 hx3 ha3 hw3 => ?_))
          rw [i32_sub_nI (by omega), hrun] at hw3
          have hh := fun l4 => ih ne l4 g3 (by omega) (by omega) hc3 ((hox.tr ((OX.ti (Or.inl (by decide))).tr (OX.ti (Or.inl (by decide))))).tr hx3) (by rw [ha3.2]; exact e583) hw3 (by
            rw [ha3.1]
            exact ⟨hcv'.1, hcv'.2.1, fun i hi => by
              obtain ⟨u, e1, e2, e3⟩ := hcv'.2.2 i hi
              exact ⟨u, e1, e2, fun t' g1 g2 => e3 t' (by omega) g2⟩⟩)
          refine go ok_X7_weigh ?_
          exact hh _
  have zero : ∀ g, RC S G g → OX h g → hR g 583 32 = hR h 583 32 → CWF (yC S 0) g → ∀ n i un, i + n = 8 → un.length = 8 → (∀ j, j < i → un.getD j 0 = 0) → Ex l w true mX7_weigh (d + 7) Q 49 [some (vr 38), some (vi (nI n0)), some (vr (hR h 583 32)), some (vi (nI i)), none] [] (tI g 41 un) 0 0 := by
    intro g hcg hox e583 hw n
    induction n with
    | zero =>
      intro i un hi hl hz
      have : i = 8 := by omega
      subst this
      refine Ex.lay (fun hy => ?_)
      refine go ok_X7_weigh ?_
      refine And.intro (fun c => ?_) (fun c => absurd c (by decide))
      refine go ok_X7_weigh ?_
      refine main (n0 + 1) 0 _ _ (by omega) (by omega) (hcg.ti (by decide)) (hox.tr (OX.ti (Or.inl (by decide)))) e583 hw ⟨(by have := yn40 hy; exact this), hl, fun i hi => ⟨0, by omega, ?_, fun t' _ z => by omega⟩⟩
      exact hz i (by omega)
    | succ n ih =>
      intro i un hi hl hz
      have hh := ih (i + 1) (un.set i 0) (by omega) (by rw [List.length_set]; exact hl) (fun j hj => by
        rw [getD_set]
        split
        · rfl
        · rename_i z; exact hz j (by omega))
      rw [← nI_1, ← tI_tI g 41 un] at hh
      refine Ex.lay (fun hy => ?_)
      refine go ok_X7_weigh ?_
      refine And.intro (fun c => ?_) (fun c => ?_)
      · replace c : nI 8 ≤ nI i := c; rw [nI_leI (by omega) (by omega)] at c
        omega
      · refine go ok_X7_weigh ?_
        refine And.intro (jx41 hy rfl (by omega)) ?_
        rw [nI_clamp (by omega), show aI (tI g 41 un) 41 = un from rfl]
        exact hh
  refine Con.of ok_X7_weigh (nones := [none, none]) rfl (by simp) ?_
  refine go ok_X7_weigh ?_
  refine And.intro hc.wh.1 ?_
  refine Cal.z (j_size (L := vwA (gLa G) (gWh S)) hc.wh ?_)
  rw [vwA_len]
  refine Ex.lay (fun hy => ?_)
  have y41 : (aI h 41).length = 8 := by have := yn41 hy; exact this
  have hh := zero (sI (sI (sI (sI (sI (sI (sI h 515 38 (-1)) 516 38 0) 517 38 (-1)) 518 38 ((1 <<< (nI (gWh S).length &&& 31)) - 1)) 519 38 0) 520 38 (-1)) 521 38 0) (((((((hc.si (by omega)).si (by omega)).si (by omega)).si (by omega)).si (by omega)).si (by omega)).si (by omega)) (((((((OX.si (by decide)).tr (OX.si (by decide))).tr (OX.si (by decide))).tr (OX.si (by decide))).tr (OX.si (by decide))).tr (OX.si (by decide))).tr (OX.si (by decide))) rfl ⟨rfl, rfl, rfl, rfl, rfl, rfl, rfl⟩ 8 0 (aI h 41) (by omega) y41 (fun j hj => by omega)
  rw [show tI (sI (sI (sI (sI (sI (sI (sI h 515 38 (-1)) 516 38 0) 517 38 (-1)) 518 38 ((1 <<< (nI (gWh S).length &&& 31)) - 1)) 519 38 0) 520 38 (-1)) 521 38 0) 41 (aI h 41) = sI (sI (sI (sI (sI (sI (sI h 515 38 (-1)) 516 38 0) 517 38 (-1)) 518 38 ((1 <<< (nI (gWh S).length &&& 31)) - 1)) 519 38 0) 520 38 (-1)) 521 38 0 from tI_self _ 41] at hh
  refine go ok_X7_weigh ?_
  exact hh
theorem c_whole (hc : RC S G h) (hv : Inv S) (h8 : (gWh S).length ≤ 8) {x : Int32} (q : ∀ h', RC S G h' → OX h h' → Q (some (vi (wholeA S x))) h') : Con l w true (d + 8) HX8_whole [vr 32, vi x] h 0 0 Q := by
  obtain ⟨n0, hn0, en⟩ := hv.now
  refine Con.of ok_X8_whole (nones := []) rfl (by simp) ?_
  have k9 : ¬ (0 ≤ x ∧ x ≤ 5) → Ex l w true mX8_whole (d + 8) Q 9 [some (vr 32), some (vi x)] [] h 0 0 := by
    intro c
    rw [wholeA, if_neg c] at q
    refine go ok_X8_whole ?_
    exact q _ hc (OX.rf h)
  refine go ok_X8_whole ?_
  refine And.intro (fun c => ?_) (fun c => ?_)
  · exact k9 (fun z => absurd z.1 (by simpa using c))
  · refine go ok_X8_whole ?_
    refine And.intro (fun c2 => ?_) (fun c2 => ?_)
    · have hx : 0 ≤ x ∧ x ≤ 5 := ⟨by simpa using c, c2⟩
      rw [wholeA, if_pos hx] at q
      refine go ok_X8_whole ?_
      refine And.intro hc.wh.1 ?_
      refine Cal.z (j_isEmpty hc.wh (by rw [vwA_len]; omega) ?_)
      rw [vwA_len]
      by_cases c3 : (gWh S).length = 0
      · rw [if_pos c3] at q
        rw [decide_eq_true c3]
        refine go ok_X8_whole ?_
        refine And.intro (fun c4 => absurd c4 (by decide)) (fun c4 => ?_)
        refine go ok_X8_whole ?_
        exact q _ hc (OX.rf h)
      · rw [if_neg c3, en, nI_clamp (by omega)] at q
        rw [decide_eq_false c3]
        refine go ok_X8_whole ?_
        refine And.intro (fun c4 => ?_) (fun c4 => absurd c4 (by decide))
        refine go ok_X8_whole ?_
        refine asCal ?_
        rw [hc.now, en]
        refine Cal.z (c_weigh hc hv h8 hn0 (fun h' hc' hox hw => ?_))
        have q := q h' hc' hox
        have an : ∀ K : Option AV → AH → Prop, K (some (vi (if x = 0 then (whR S (n0 + 1)).1 else if x = 1 then (whR S (n0 + 1)).2.1 else if x = 2 then (whR S (n0 + 1)).2.2.1 else if x = 3 then (whR S (n0 + 1)).2.2.2.1 else if x = 4 then (whR S (n0 + 1)).2.2.2.2.1 else (whR S (n0 + 1)).2.2.2.2.2.1))) h' → Con l w true (d + 7) HX7_answer [vr 38, vi x] h' 0 0 K := by
          intro K hK
          obtain ⟨w1, w2, w3, w4, w5, w6, w7⟩ := hw
          refine Con.of ok_X7_answer (nones := []) rfl (by simp) ?_
          refine go ok_X7_answer ?_
          refine And.intro (And.intro (fun c => ?_) (And.intro (fun c => ?_) (And.intro (fun c => ?_) (And.intro (fun c => ?_) (And.intro (fun c => ?_) (True.intro)))))) (fun c => ?_)
          · obtain rfl := toI c
            refine go ok_X7_answer ?_
            exact Qv hK w1.symm
          · obtain rfl := toI c
            refine go ok_X7_answer ?_
            exact Qv hK w2.symm
          · obtain rfl := toI c
            refine go ok_X7_answer ?_
            exact Qv hK w3.symm
          · obtain rfl := toI c
            refine go ok_X7_answer ?_
            exact Qv hK w4.symm
          · obtain rfl := toI c
            refine go ok_X7_answer ?_
            exact Qv hK w5.symm
          · have e5 : x = 5 := by
              apply Int32.toInt_inj.mp
              have h1 := hx.1
              have h2 := hx.2
              rw [Int32.le_iff_toInt_le] at h1 h2
              simp at h1 h2 ⊢
              omega
            subst e5
            refine go ok_X7_answer ?_
            exact Qv hK w6.symm
        refine go ok_X8_whole ?_
        refine Cal.z (an _ ?_)
        refine go ok_X8_whole ?_
        exact q
    · exact k9 (fun z => c2 z.2)
end C16

