/-! ===== the class: the whole ===== -/
section C15
variable {l : Launch} {w : WD} {d : Nat} {h g : AH} {Q : Option AV → AH → Prop} {S : SG} {G : GH}
theorem neg1 {x : Int32} (hx : x = -1 ∨ 0 ≤ x) : x < 0 ↔ x = -1 := by
  rcases hx with rfl | hx
  · decide
  · constructor
    · intro z; rw [Int32.lt_iff_toInt_lt] at z; rw [Int32.le_iff_toInt_le] at hx; omega
    · intro z; subst z; exact absurd hx (by decide)
def winv (x : WT) : Prop := (x.1 = -1 ∨ 0 ≤ x.1) ∧ (x.2.2.1 = -1 ∨ 0 ≤ x.2.2.1) ∧ 0 ≤ x.2.2.2.1
theorem winv_run {n : Nat} {x : WT} {t off nn : Int32} {m : Nat} (hx : winv x) (ht : 0 ≤ t) (ho : 0 ≤ off) : winv (wRun n x t off nn m) ∧ 0 ≤ (wRun n x t off nn m).2.2.2.2.1 := by
  obtain ⟨h1, h2, h3⟩ := hx
  refine ⟨⟨?_, ?_, ?_⟩, ?_⟩
  · unfold wRun; dsimp only; split
    · exact Or.inr ht
    · exact h1
  · unfold wRun; dsimp only; split
    · exact Or.inr ht
    · exact h2
  · unfold wRun; dsimp only; split
    · exact ho
    · exact h3
  · unfold wRun wNear; dsimp only; split
    · exact ht
    · rename_i c
      have : ¬ x.2.2.2.2.1 < 0 := fun z => c (Or.inl z)
      simpa using this
/-- the class's tuple at an hour -/
def yC (S : SG) (t : Nat) : WT := if t = 0 then (-1, 0, -1, (1 <<< (nI (gWh S).length &&& 31)) - 1, 0, -1, 0) else whR S t
theorem cw1 {x t off : Int32} (h : x = -1 ∨ 0 ≤ x) : (if off = 0 then (if x = -1 then t else x) else x) = if x < 0 ∧ off = 0 then t else x := by
  have n := neg1 h
  by_cases c : off = 0
  · rw [if_pos c]
    by_cases c2 : x = -1
    · rw [if_pos c2, if_pos ⟨n.mpr c2, c⟩]
    · rw [if_neg c2, if_neg (fun z => c2 (n.mp z.1))]
  · rw [if_neg c, if_neg (fun z => c z.2)]
theorem cw2 {x off m : Int32} : (if off = 0 then x + m else x) = x + (if off = 0 then m else 0) := by
  by_cases c : off = 0
  · rw [if_pos c, if_pos c]
  · rw [if_neg c, if_neg c, Int32.add_zero]
theorem cw3 {x t nn : Int32} (h : x = -1 ∨ 0 ≤ x) : (if nn = 0 ∧ x = -1 then t else x) = if x < 0 ∧ nn = 0 then t else x := by
  have n := neg1 h
  by_cases c : nn = 0 ∧ x = -1
  · rw [if_pos c, if_pos ⟨n.mpr c.2, c.1⟩]
  · rw [if_neg c, if_neg (fun z => c ⟨z.2, n.mp z.1⟩)]
theorem cw5 {x1 x2 x3 x4 x5 x6 x7 y5 y6 y7 t tw nn : Int32} (hy : (y5 = x5 ∧ y6 = x6 ∧ y7 = x7 ∧ 0 ≤ x5) ∨ (x5 < 0 ∧ y6 < tw)) : cNear (y5, y6, y7) t tw nn = wNear (x1, x2, x3, x4, x5, x6, x7) t tw nn := by
  unfold cNear wNear
  dsimp only
  rcases hy with ⟨e5, e6, e7, hy⟩ | ⟨hy1, hy2⟩
  · subst e5 e6 e7
    have : ¬ y5 < 0 := fun z => by rw [Int32.lt_iff_toInt_lt] at z; rw [Int32.le_iff_toInt_le] at hy; omega
    by_cases c : y6 < tw ∨ (tw = y6 ∧ nn < y7)
    · rw [if_pos c, if_pos (Or.inr c)]
    · rw [if_neg c, if_neg (fun z => z.elim this c)]
  · rw [if_pos (Or.inl hy2), if_pos (Or.inl hy1)]
theorem cRun_eq {n : Nat} {x1 x2 x3 x4 x5 x6 x7 y5 y6 y7 t off nn : Int32} {m : Nat} (h1 : x1 = -1 ∨ 0 ≤ x1) (h3 : x3 = -1 ∨ 0 ≤ x3) (hy : (y5 = x5 ∧ y6 = x6 ∧ y7 = x7 ∧ 0 ≤ x5) ∨ (x5 < 0 ∧ y6 < nI n - ons off.toInt64)) : cRun n (x1, x2, x3, x4, y5, y6, y7) t off nn (nI m) = wRun n (x1, x2, x3, x4, x5, x6, x7) t off nn m := by
  unfold cRun wRun
  dsimp only
  rw [cw1 h1, cw2, cw3 h3, cw5 (x1 := x1) (x2 := x2) (x3 := x3) (x4 := x4) hy]
theorem offR_cong {t t' : Int32} : ∀ n, (∀ i, i < n → staS S (gN (gWh S) i) t' = staS S (gN (gWh S) i) t) → offR S t' n = offR S t n ∧ nonR S t' n = nonR S t n
  | 0, _ => ⟨rfl, rfl⟩
  | n + 1, hh => by
    obtain ⟨e1, e2⟩ := offR_cong n (fun i hi => hh i (by omega))
    rw [offR, offR, nonR, nonR, e1, e2, hh n (by omega)]
    exact ⟨rfl, rfl⟩
theorem ons_b (s : Int64) : ∃ c, c ≤ 64 ∧ ons s = nI c := ⟨_, ctB_le _ _, ons_ct s⟩
theorem c_weighHours (hc : RC S G g) (h8 : (gWh S).length ≤ 8) {t nx : Nat} {st : List Int32} (hst : aI g 40 = st) (hs : ∀ i, i < (gWh S).length → staS S (gN (gWh S) i) (nI t) = st.getD i 0) {x : WT} (hx : CWF x g) (hx4 : 0 ≤ x.2.2.2.1) (q : ∀ h', RC S G h' → OX g h' → (aI h' = aI g ∧ hR h' = hR g) → CWF (cRun (gWh S).length x (nI t) (offR S (nI t) (gWh S).length) (nonR S (nI t) (gWh S).length) (nI nx - nI t)) h' → Q none h') : Con l w true (d + 2) HX7_weighHours [vr 38, vi (nI t), vi (nI nx)] g 0 0 Q := by
  obtain ⟨off0, cc, hcc, eoff⟩ := off_ons (S := S) (t := nI t) (n := (gWh S).length) h8
  obtain ⟨x1, x2, x3, x4, x5, x6, x7⟩ := x
  dsimp only at hx4
  have lp : ∀ n i, i + n = (gWh S).length → Ex l w true mX7_weighHours (d + 2) Q 8 [some (vr 38), some (vi (nI t)), some (vi (nI nx)), some (vi (offR S (nI t) i)), some (vi (nonR S (nI t) i)), some (vi (nI i))] [] g 0 0 := by
    intro n
    induction n with
    | zero =>
      intro i hi
      have : i = (gWh S).length := by omega
      subst this
      unfold cRun at q
      generalize hoff : offR S (nI t) (gWh S).length = off at *
      generalize nonR S (nI t) (gWh S).length = non at *
      dsimp only at q
      have k147 : ∀ g' v1 v2 v3 v4, RC S G g' → OX g g' → (aI g' = aI g ∧ hR g' = hR g) → v1 = (if off = 0 then (if x1 = -1 then nI t else x1) else x1) → v2 = (if off = 0 then x2 + (nI nx - nI t) else x2) → v3 = (if non = 0 ∧ x3 = -1 then nI t else x3) → v4 = (if ons off.toInt64 < ons x4.toInt64 ∨ (ons off.toInt64 = ons x4.toInt64 ∧ off < x4) then off else x4) → CWF (v1, v2, v3, v4, x5, x6, x7) g' → Ex l w true mX7_weighHours (d + 2) Q 147 [some (vr 38), some (vi (nI t)), some (vi (nI nx)), some (vi off), some (vi non), some (vi (nI (gWh S).length))] [] g' 0 0 := by
        intro g' v1 v2 v3 v4 hcg hox hai e1 e2 e3 e4 hw
        obtain ⟨w1, w2, w3, w4, w5, w6, w7⟩ := hw
        dsimp only at w1 w2 w3 w4 w5 w6 w7
        unfold cNear at q
        dsimp only at q
        have stay : ¬ (x6 < nI (gWh S).length - ons off.toInt64 ∨ (nI (gWh S).length - ons off.toInt64 = x6 ∧ non < x7)) → Q none g' := by
          intro c
          rw [if_neg c] at q
          exact q g' hcg hox hai ⟨w1.trans e1, w2.trans e2, w3.trans e3, w4.trans e4, w5, w6, w7⟩
        have k190 : (x6 < nI (gWh S).length - ons off.toInt64 ∨ (nI (gWh S).length - ons off.toInt64 = x6 ∧ non < x7)) → Ex l w true mX7_weighHours (d + 2) Q 190 [some (vr 38), some (vi (nI t)), some (vi (nI nx)), some (vi off), some (vi non), some (vi (nI (gWh S).length - ons off.toInt64))] [] g' 0 0 := by
          intro c
          rw [if_pos c] at q
          refine go ok_X7_weighHours ?_
          exact q _ hcg (((hox.tr (OX.si (by decide))).tr (OX.si (by decide))).tr (OX.si (by decide))) hai ⟨w1.trans e1, w2.trans e2, w3.trans e3, w4.trans e4, rfl, rfl, rfl⟩
        refine go ok_X7_weighHours ?_
        refine And.intro hcg.wh.1 ?_
        refine Cal.z (j_size hcg.wh ?_)
        rw [vwA_len]
        refine go ok_X7_weighHours ?_
        refine Cal.z (j_bitCountI off0 ?_)
        refine go ok_X7_weighHours ?_
        refine asAnd ?_
        rw [w6]
        refine And.intro (fun c1 => ?_) (fun c1 => ?_)
        · exact k190 (Or.inl c1)
        · refine go ok_X7_weighHours ?_
          refine asAnd ?_
          rw [w6]
          refine And.intro (fun c2 => ?_) (fun c2 => ?_)
          · refine go ok_X7_weighHours ?_
            exact stay (fun z => z.elim c1 (fun z => c2 z.1))
          · refine go ok_X7_weighHours ?_
            refine asAnd ?_
            rw [w7]
            refine And.intro (fun c3 => ?_) (fun c3 => ?_)
            · refine go ok_X7_weighHours ?_
              exact stay (fun z => z.elim c1 (fun z => absurd z.2 (by simpa using c3)))
            · exact k190 (Or.inr ⟨c2, by simpa using c3⟩)
      have k131 : ∀ g' v1 v2 v3, RC S G g' → OX g g' → (aI g' = aI g ∧ hR g' = hR g) → v1 = (if off = 0 then (if x1 = -1 then nI t else x1) else x1) → v2 = (if off = 0 then x2 + (nI nx - nI t) else x2) → v3 = (if non = 0 ∧ x3 = -1 then nI t else x3) → CWF (v1, v2, v3, x4, x5, x6, x7) g' → Ex l w true mX7_weighHours (d + 2) Q 131 [some (vr 38), some (vi (nI t)), some (vi (nI nx)), some (vi off), some (vi non), some (vi (nI (gWh S).length))] [] g' 0 0 := by
        intro g' v1 v2 v3 hcg hox hai e1 e2 e3 hw
        obtain ⟨c4, hc4, e4⟩ := ons_b x4.toInt64
        refine go ok_X7_weighHours ?_
        refine asCal ?_
        rw [show hI g' 518 38 = x4 from hw.2.2.2.1]
        refine Cal.z (c_isFewer off0 hx4 eoff e4 (by omega) hc4 (fun c => ?_) (fun c => ?_))
        · refine go ok_X7_weighHours ?_
          refine And.intro (fun c2 => absurd c2 (by decide)) (fun c2 => ?_)
          refine go ok_X7_weighHours ?_
          refine k147 _ v1 v2 v3 off hcg (hox.tr (OX.si (by decide))) hai e1 e2 e3 (by rw [if_pos c]) ?_
          obtain ⟨w1, w2, w3, w4, w5, w6, w7⟩ := hw
          exact ⟨w1, w2, w3, rfl, w5, w6, w7⟩
        · refine go ok_X7_weighHours ?_
          refine And.intro (fun c2 => ?_) (fun c2 => absurd c2 (by decide))
          exact k147 g' v1 v2 v3 x4 hcg hox hai e1 e2 e3 (by rw [if_neg c]) hw
      have k113 : ∀ g' v1 v2, RC S G g' → OX g g' → (aI g' = aI g ∧ hR g' = hR g) → v1 = (if off = 0 then (if x1 = -1 then nI t else x1) else x1) → v2 = (if off = 0 then x2 + (nI nx - nI t) else x2) → CWF (v1, v2, x3, x4, x5, x6, x7) g' → Ex l w true mX7_weighHours (d + 2) Q 113 [some (vr 38), some (vi (nI t)), some (vi (nI nx)), some (vi off), some (vi non), some (vi (nI (gWh S).length))] [] g' 0 0 := by
        intro g' v1 v2 hcg hox hai e1 e2 hw
        refine go ok_X7_weighHours ?_
        refine And.intro (fun c1 => ?_) (fun c1 => ?_)
        · exact k131 g' v1 v2 x3 hcg hox hai e1 e2 (by rw [if_neg (fun z => c1 z.1)]) hw
        · refine go ok_X7_weighHours ?_
          refine asAnd ?_
          rw [show hI g' 517 38 = x3 from hw.2.2.1]
          refine And.intro (fun c2 => ?_) (fun c2 => ?_)
          · exact k131 g' v1 v2 x3 hcg hox hai e1 e2 (by rw [if_neg (fun z => c2 z.2)]) hw
          · refine go ok_X7_weighHours ?_
            refine k131 _ v1 v2 (nI t) hcg (hox.tr (OX.si (by decide))) hai e1 e2 (by rw [if_pos ⟨c1, c2⟩]) ?_
            obtain ⟨w1, w2, w3, w4, w5, w6, w7⟩ := hw
            exact ⟨w1, w2, rfl, w4, w5, w6, w7⟩
      have k77 : Ex l w true mX7_weighHours (d + 2) Q 77 [some (vr 38), some (vi (nI t)), some (vi (nI nx)), some (vi off), some (vi non), some (vi (nI (gWh S).length))] [] g 0 0 := by
        obtain ⟨w1, w2, w3, w4, w5, w6, w7⟩ := hx
        dsimp only at w1 w2 w3 w4 w5 w6 w7
        refine go ok_X7_weighHours ?_
        refine And.intro (fun c1 => ?_) (fun c1 => ?_)
        · exact k113 g x1 x2 hc (OX.rf g) ⟨rfl, rfl⟩ (by rw [if_neg c1]) (by rw [if_neg c1]) ⟨w1, w2, w3, w4, w5, w6, w7⟩
        · have fin : ∀ v, v = (if x1 = -1 then nI t else x1) → Ex l w true mX7_weighHours (d + 2) Q 101 [some (vr 38), some (vi (nI t)), some (vi (nI nx)), some (vi off), some (vi non), some (vi (nI (gWh S).length))] [] (sI g 515 38 v) 0 0 := by
            intro v hv
            refine go ok_X7_weighHours ?_
            refine k113 _ v (x2 + (nI nx - nI t)) hc ((OX.si (by decide)).tr (OX.si (by decide))) ⟨rfl, rfl⟩ (by rw [if_pos c1]; exact hv) (by rw [if_pos c1]) ⟨rfl, ?_, w3, w4, w5, w6, w7⟩
            show hI g 516 38 + (nI nx - nI t) = _
            rw [w2]
          refine go ok_X7_weighHours ?_
          refine asAnd ?_
          rw [w1]
          refine And.intro (fun c2 => ?_) (fun c2 => ?_)
          · refine goN 3 ok_X7_weighHours ?_
            exact fin _ (by rw [if_neg c2]; exact w1)
          · refine goN 3 ok_X7_weighHours ?_
            exact fin _ (by rw [if_pos c2])
      refine go ok_X7_weighHours ?_
      refine And.intro hc.wh.1 ?_
      refine Cal.z (j_size hc.wh ?_)
      rw [vwA_len]
      refine go ok_X7_weighHours ?_
      refine asAnd ?_
      rw [nI_leI (by omega) (by omega)]
      refine And.intro (fun c => ?_) (fun c => ?_)
      · exact k77
      · omega
    | succ n ih =>
      intro i hi
      have hh := ih (i + 1) (by omega)
      rw [offR, nonR, ← nI_1] at hh
      have es : (aI g 40).getD (nI i).toNatClampNeg 0 = staS S (gN (gWh S) i) (nI t) := by rw [nI_clamp (by omega), hst]; exact (hs i (by omega)).symm
      refine Ex.lay (fun hy => ?_)
      refine go ok_X7_weighHours ?_
      refine And.intro hc.wh.1 ?_
      refine Cal.z (j_size hc.wh ?_)
      rw [vwA_len]
      refine go ok_X7_weighHours ?_
      refine asAnd ?_
      rw [nI_leI (by omega) (by omega)]
      refine And.intro (fun c => ?_) (fun c => ?_)
      · omega
      · refine go ok_X7_weighHours ?_
        refine asAnd ?_
        rw [show (8 : Int32) = nI 8 from rfl, nI_leI (by omega) (by omega)]
        refine And.intro (fun c2 => ?_) (fun c2 => ?_)
        · omega
        · refine go ok_X7_weighHours ?_
          refine And.intro (ix40 hy rfl (by omega)) ?_
          refine asAnd ?_
          rw [es]
          refine And.intro (fun c3 => ?_) (fun c3 => ?_)
          · rw [if_neg c3] at hh
            refine go ok_X7_weighHours ?_
            refine And.intro (ix40 hy rfl (by omega)) ?_
            refine asAnd ?_
            rw [es]
            refine And.intro (fun c4 => ?_) (fun c4 => ?_)
            · rw [decide_eq_false c4] at hh
              refine go ok_X7_weighHours ?_
              exact hh
            · rw [decide_eq_true c4] at hh
              refine go ok_X7_weighHours ?_
              exact hh
          · rw [if_pos c3] at hh
            refine go ok_X7_weighHours ?_
            refine And.intro (ix40 hy rfl (by omega)) ?_
            refine asAnd ?_
            rw [es]
            refine And.intro (fun c4 => ?_) (fun c4 => ?_)
            · rw [decide_eq_false c4] at hh
              refine go ok_X7_weighHours ?_
              exact hh
            · exact absurd (c3.symm.trans c4) (by decide)
  refine Con.of ok_X7_weighHours (nones := [none, none, none]) rfl (by simp) ?_
  refine go ok_X7_weighHours ?_
  exact lp (gWh S).length 0 (by omega)
end C15

