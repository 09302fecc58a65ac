/-! ===== the reference: the whole ===== -/
def offR (S : SG) (t : Int32) : Nat → Int32
  | 0 => 0
  | k + 1 => offR S t k ||| (if staS S (gN (gWh S) k) t = 2 then 0 else (1 : Int32) <<< (nI k &&& 31))
def nonR (S : SG) (t : Int32) : Nat → Int32
  | 0 => 0
  | k + 1 => nonR S t k + b2i (decide (staS S (gN (gWh S) k) t = 0))
/-- stood, how many, could, fewest, nearest, its twos, its nones -/
abbrev WT : Type := Int32 × Int32 × Int32 × Int32 × Int32 × Int32 × Int32
def wNear (x : WT) (t tw nn : Int32) : Int32 × Int32 × Int32 := if x.2.2.2.2.1 < 0 ∨ x.2.2.2.2.2.1 < tw ∨ (tw = x.2.2.2.2.2.1 ∧ nn < x.2.2.2.2.2.2) then (t, tw, nn) else x.2.2.2.2
def wStep (n : Nat) (x : WT) (t off nn : Int32) : WT :=
  (if x.1 < 0 ∧ off = 0 then t else x.1, x.2.1 + b2i (decide (off = 0)), if x.2.2.1 < 0 ∧ nn = 0 then t else x.2.2.1, if ons off.toInt64 < ons x.2.2.2.1.toInt64 ∨ (ons off.toInt64 = ons x.2.2.2.1.toInt64 ∧ off < x.2.2.2.1) then off else x.2.2.2.1, wNear x t (nI n - ons off.toInt64) nn)
def whR (S : SG) : Nat → WT
  | 0 => (-1, 0, -1, (1 <<< (nI (gWh S).length &&& 31)) - 1, -1, 0, 0)
  | t + 1 => wStep (gWh S).length (whR S t) (nI t) (offR S (nI t) (gWh S).length) (nonR S (nI t) (gWh S).length)
def wholeA (S : SG) (x : Int32) : Int32 := if 0 ≤ x ∧ x ≤ 5 then (if (gWh S).length = 0 then -1003 else
    (if x = 0 then (whR S ((gNw S).toNatClampNeg + 1)).1 else if x = 1 then (whR S ((gNw S).toNatClampNeg + 1)).2.1 else if x = 2 then (whR S ((gNw S).toNatClampNeg + 1)).2.2.1 else if x = 3 then (whR S ((gNw S).toNatClampNeg + 1)).2.2.2.1 else if x = 4 then (whR S ((gNw S).toNatClampNeg + 1)).2.2.2.2.1 else (whR S ((gNw S).toNatClampNeg + 1)).2.2.2.2.2.1)) else -1002
def WF (x : WT) (h : AH) : Prop := hI h 679 62 = x.1 ∧ hI h 680 62 = x.2.1 ∧ hI h 681 62 = x.2.2.1 ∧ hI h 682 62 = x.2.2.2.1 ∧ hI h 683 62 = x.2.2.2.2.1 ∧ hI h 684 62 = x.2.2.2.2.2.1
theorem sI_self (h : AH) (f a : Nat) : sI h f a (hI h f a) = h := by
  unfold sI
  rw [up2_self]
  rfl
section R16
variable {l : Launch} {w : WD} {d : Nat} {h : AH} {Q : Option AV → AH → Prop} {S : SG}
theorem WF.vw {x : WT} {r : List Int32} {v : Int32} (hw : WF x h) : WF x (vw h r v) := hw
theorem r_findWhole_in (hv : Inv S) {x : WT} {nn t : Int32} (q : ∀ l6 h', RM S h' → OM h h' → WF x h' → Ex l w true mX9_findWhole (d + 5) Q 121 [some (vr 62), some (vi nn), some (vi t), some (vi (offR S t (gWh S).length)), some (vi (nonR S t (gWh S).length)), some (vi (nI (gWh S).length)), l6] [] h' 0 0) : ∀ n i l6 h', i + n = (gWh S).length → RM S h' → OM h h' → WF x h' →
    Ex l w true mX9_findWhole (d + 5) Q 57 [some (vr 62), some (vi nn), some (vi t), some (vi (offR S t i)), some (vi (nonR S t i)), some (vi (nI i)), l6] [] h' 0 0 := by
  intro n
  induction n with
  | zero =>
    intro i l6 h' hi hM ho hw
    have h8 := hM.m9.2.1
    have : i = (gWh S).length := by omega
    subst this
    refine go ok_X9_findWhole ?_
    refine asAnd ?_
    rw [hM.m9.1]
    refine And.intro (fun c => ?_) (fun c => ?_)
    · exact q _ h' hM ho hw
    · exact absurd (nI_le (Nat.le_refl _) (by omega)) c
  | succ n ih =>
    intro i l6 h' hi hM ho hw
    have h8 := hM.m9.2.1
    refine Ex.lay (fun hy => ?_)
    refine go ok_X9_findWhole ?_
    refine asAnd ?_
    rw [hM.m9.1]
    refine And.intro (fun c => ?_) (fun c => ?_)
    · exact absurd c (nI_ge (by omega) (by omega))
    · refine go ok_X9_findWhole ?_
      refine And.intro (ix83 hy rfl (by omega)) ?_
      refine asCal ?_
      rw [nI_clamp (by omega), hM.m9.2.2 i (by omega)]
      refine Cal.z (r_stateAt hM.m3 hM.m5a (hv.wh (by omega)) (fun r hr hrow => ?_))
      have hh := fun l6 => ih (i + 1) l6 _ (by omega) (hM.v (r := r) (v := nI (vws (gD S) (pgD (gD S) (gN (gWh S) i))).length)) (ho.v) (WF.vw hw)
      simp only [offR, nonR, ← nI_1] at hh
      generalize vw h' r (nI (vws (gD S) (pgD (gD S) (gN (gWh S) i))).length) = h2 at hh
      refine go ok_X9_findWhole ?_
      refine And.intro (fun c2 => ?_) (fun c2 => ?_)
      · replace c2 : ¬ staS S (gN (gWh S) i) t = 2 := c2
        simp only [if_neg c2] at hh
        refine go ok_X9_findWhole ?_
        refine And.intro (fun c3 => ?_) (fun c3 => ?_)
        · replace c3 : ¬ staS S (gN (gWh S) i) t = 0 := c3
          simp only [decide_eq_false c3] at hh
          refine go ok_X9_findWhole ?_
          refine Cal.z (r_one (b := false) ?_)
          refine go ok_X9_findWhole ?_
          exact hh _
        · replace c3 : staS S (gN (gWh S) i) t = 0 := c3
          simp only [decide_eq_true c3] at hh
          refine go ok_X9_findWhole ?_
          refine Cal.z (r_one (b := true) ?_)
          refine go ok_X9_findWhole ?_
          exact hh _
      · replace c2 : staS S (gN (gWh S) i) t = 2 := c2
        simp only [if_pos c2] at hh
        refine go ok_X9_findWhole ?_
        refine And.intro (fun c3 => ?_) (fun c3 => ?_)
        · replace c3 : ¬ staS S (gN (gWh S) i) t = 0 := c3
          simp only [decide_eq_false c3] at hh
          refine go ok_X9_findWhole ?_
          refine Cal.z (r_one (b := false) ?_)
          refine go ok_X9_findWhole ?_
          exact hh _
        · exact absurd (c2.symm.trans c3) (by decide)
theorem r_findWhole_loop (hv : Inv S) {n0 : Nat} (hn0 : n0 ≤ 3000) (en : gNw S = nI n0) (q : ∀ h', RM S h' → OM h h' → WF (whR S (n0 + 1)) h' → Q none h') : ∀ n t l3 l4 l5 l6 h', t + n = n0 + 1 → RM S h' → OM h h' → WF (whR S t) h' →
    Ex l w true mX9_findWhole (d + 5) Q 41 [some (vr 62), some (vi (whR S t).2.2.2.2.2.2), some (vi (nI t)), l3, l4, l5, l6] [] h' 0 0 := by
  intro n
  induction n with
  | zero =>
    intro t l3 l4 l5 l6 h' hi hM ho hw
    have : t = n0 + 1 := by omega
    subst this
    refine go ok_X9_findWhole ?_
    refine asAnd ?_
    rw [hM.1, en, nI_ltI (by omega) (by omega)]
    refine And.intro (fun c => ?_) (fun c => ?_)
    · refine go ok_X9_findWhole ?_
      exact q h' hM ho hw
    · omega
  | succ n ih =>
    intro t l3 l4 l5 l6 h' hi hM ho hw
    refine go ok_X9_findWhole ?_
    refine asAnd ?_
    rw [hM.1, en, nI_ltI (by omega) (by omega)]
    refine And.intro (fun c => ?_) (fun c => ?_)
    · omega
    · refine go ok_X9_findWhole ?_
      refine r_findWhole_in hv (fun l6 h2 hM2 ho2 hw2 => ?_) (gWh S).length 0 l6 h' (by omega) hM ho hw
      have h8 := hM2.m9.2.1
      have hh := fun h3 l3 l4 l5 l6 => ih (t + 1) l3 l4 l5 l6 h3 (by omega)
      simp only [whR, ← nI_1] at hh
      generalize offR S (nI t) (gWh S).length = off at hh
      generalize nonR S (nI t) (gWh S).length = non at hh
      generalize whR S t = x at hh hw2
      obtain ⟨x1, x2, x3, x4, x5, x6, x7⟩ := x
      obtain ⟨w1, w2, w3, w4, w5, w6⟩ := hw2
      dsimp only at w1 w2 w3 w4 w5 w6
      -- from the nearest on
      have k253 : ∀ (v1 v2 v3 v4 : Int32), v1 = (if x1 < 0 ∧ off = 0 then nI t else x1) → v2 = x2 + b2i (decide (off = 0)) → v3 = (if x3 < 0 ∧ non = 0 then nI t else x3) → v4 = (if ons off.toInt64 < ons x4.toInt64 ∨ (ons off.toInt64 = ons x4.toInt64 ∧ off < x4) then off else x4) →
          Ex l w true mX9_findWhole (d + 5) Q 253 [some (vr 62), some (vi x7), some (vi (nI t)), some (vi off), some (vi non), some (vi (nI (gWh S).length - ons off.toInt64)), l6] [] (sI (sI (sI (sI h2 679 62 v1) 680 62 v2) 681 62 v3) 682 62 v4) 0 0 := by
        intro v1 v2 v3 v4 e1 e2 e3 e4
        have k284 : (x5 < 0 ∨ x6 < nI (gWh S).length - ons off.toInt64 ∨ (nI (gWh S).length - ons off.toInt64 = x6 ∧ non < x7)) → Ex l w true mX9_findWhole (d + 5) Q 284 [some (vr 62), some (vi x7), some (vi (nI t)), some (vi off), some (vi non), some (vi (nI (gWh S).length - ons off.toInt64)), l6] [] (sI (sI (sI (sI h2 679 62 v1) 680 62 v2) 681 62 v3) 682 62 v4) 0 0 := by
          intro c
          simp only [wStep, wNear, if_pos c] at hh
          refine go ok_X9_findWhole ?_
          refine go ok_X9_findWhole ?_
          exact hh _ _ _ _ _ hM2 ((((((ho2.s (by decide)).s (by decide)).s (by decide)).s (by decide)).s (by decide)).s (by decide)) ⟨e1, e2, e3, e4, rfl, rfl⟩
        have k298 : ¬ (x5 < 0 ∨ x6 < nI (gWh S).length - ons off.toInt64 ∨ (nI (gWh S).length - ons off.toInt64 = x6 ∧ non < x7)) → Ex l w true mX9_findWhole (d + 5) Q 298 [some (vr 62), some (vi x7), some (vi (nI t)), some (vi off), some (vi non), some (vi (nI (gWh S).length - ons off.toInt64)), l6] [] (sI (sI (sI (sI h2 679 62 v1) 680 62 v2) 681 62 v3) 682 62 v4) 0 0 := by
          intro c
          simp only [wStep, wNear, if_neg c] at hh
          refine go ok_X9_findWhole ?_
          exact hh _ _ _ _ _ hM2 ((((ho2.s (by decide)).s (by decide)).s (by decide)).s (by decide)) ⟨e1, e2, e3, e4, w5, w6⟩
        refine go ok_X9_findWhole ?_
        refine asAnd ?_
        rw [show hI (sI (sI (sI (sI h2 679 62 v1) 680 62 v2) 681 62 v3) 682 62 v4) 683 62 = x5 from w5]
        refine And.intro (fun c1 => ?_) (fun c1 => ?_)
        · exact k284 (Or.inl c1)
        · refine go ok_X9_findWhole ?_
          refine asAnd ?_
          rw [show hI (sI (sI (sI (sI h2 679 62 v1) 680 62 v2) 681 62 v3) 682 62 v4) 684 62 = x6 from w6]
          refine And.intro (fun c2 => ?_) (fun c2 => ?_)
          · exact k284 (Or.inr (Or.inl c2))
          · refine go ok_X9_findWhole ?_
            refine asAnd ?_
            rw [show hI (sI (sI (sI (sI h2 679 62 v1) 680 62 v2) 681 62 v3) 682 62 v4) 684 62 = x6 from w6]
            refine And.intro (fun c3 => ?_) (fun c3 => ?_)
            · exact k298 (fun z => z.elim c1 (fun z => z.elim c2 (fun z => c3 z.1)))
            · refine go ok_X9_findWhole ?_
              refine And.intro (fun c4 => ?_) (fun c4 => ?_)
              · exact k298 (fun z => z.elim c1 (fun z => z.elim c2 (fun z => absurd c4 (by simpa using z.2))))
              · exact k284 (Or.inr (Or.inr ⟨c3, by simpa using c4⟩))
      -- from the fewest on
      have k201 : ∀ (v1 v2 v3 : Int32), v1 = (if x1 < 0 ∧ off = 0 then nI t else x1) → v2 = x2 + b2i (decide (off = 0)) → v3 = (if x3 < 0 ∧ non = 0 then nI t else x3) →
          Ex l w true mX9_findWhole (d + 5) Q 201 [some (vr 62), some (vi x7), some (vi (nI t)), some (vi off), some (vi non), some (vi (nI (gWh S).length - ons off.toInt64)), l6] [] (sI (sI (sI h2 679 62 v1) 680 62 v2) 681 62 v3) 0 0 := by
        intro v1 v2 v3 e1 e2 e3
        have r4 : hI (sI (sI (sI h2 679 62 v1) 680 62 v2) 681 62 v3) 682 62 = x4 := w4
        have k246 : ¬ (ons off.toInt64 < ons x4.toInt64 ∨ (ons off.toInt64 = ons x4.toInt64 ∧ off < x4)) → Ex l w true mX9_findWhole (d + 5) Q 246 [some (vr 62), some (vi x7), some (vi (nI t)), some (vi off), some (vi non), some (vi (nI (gWh S).length - ons off.toInt64)), l6] [vr 62] (sI (sI (sI h2 679 62 v1) 680 62 v2) 681 62 v3) 0 0 := by
          intro c
          refine goN 3 ok_X9_findWhole ?_
          exact k253 v1 v2 v3 _ e1 e2 e3 (by rw [if_neg c]; exact r4)
        have k242 : (ons off.toInt64 < ons x4.toInt64 ∨ (ons off.toInt64 = ons x4.toInt64 ∧ off < x4)) → Ex l w true mX9_findWhole (d + 5) Q 242 [some (vr 62), some (vi x7), some (vi (nI t)), some (vi off), some (vi non), some (vi (nI (gWh S).length - ons off.toInt64)), l6] [vr 62] (sI (sI (sI h2 679 62 v1) 680 62 v2) 681 62 v3) 0 0 := by
          intro c
          refine goN 3 ok_X9_findWhole ?_
          exact k253 v1 v2 v3 _ e1 e2 e3 (by rw [if_pos c])
        refine go ok_X9_findWhole ?_
        refine Cal.z (r_ones ?_)
        refine go ok_X9_findWhole ?_
        refine asCal ?_
        rw [r4]
        refine Cal.z (r_ones ?_)
        refine go ok_X9_findWhole ?_
        refine And.intro (fun c1 => ?_) (fun c1 => ?_)
        · exact k242 (Or.inl c1)
        · refine go ok_X9_findWhole ?_
          refine Cal.z (r_ones ?_)
          refine go ok_X9_findWhole ?_
          refine asCal ?_
          rw [r4]
          refine Cal.z (r_ones ?_)
          refine go ok_X9_findWhole ?_
          refine And.intro (fun c2 => ?_) (fun c2 => ?_)
          · exact k246 (fun z => z.elim c1 (fun z => c2 z.1))
          · refine go ok_X9_findWhole ?_
            refine asAnd ?_
            rw [r4]
            refine And.intro (fun c3 => ?_) (fun c3 => ?_)
            · exact k246 (fun z => z.elim c1 (fun z => absurd c3 (by simpa using z.2)))
            · exact k242 (Or.inr ⟨c2, by simpa using c3⟩)
      have k177 : ∀ (v1 v2 : Int32), v1 = (if x1 < 0 ∧ off = 0 then nI t else x1) → v2 = x2 + b2i (decide (off = 0)) →
          Ex l w true mX9_findWhole (d + 5) Q 177 [some (vr 62), some (vi x7), some (vi (nI t)), some (vi off), some (vi non), some (vi (nI (gWh S).length - ons off.toInt64)), l6] [] (sI (sI h2 679 62 v1) 680 62 v2) 0 0 := by
        intro v1 v2 e1 e2
        have r3 : hI (sI (sI h2 679 62 v1) 680 62 v2) 681 62 = x3 := w3
        refine go ok_X9_findWhole ?_
        refine asAnd ?_
        rw [r3]
        refine And.intro (fun c1 => ?_) (fun c1 => ?_)
        · refine goN 3 ok_X9_findWhole ?_
          exact k201 v1 v2 _ e1 e2 (by rw [if_neg (fun z => absurd z.1 (by simpa using c1))]; exact r3)
        · refine go ok_X9_findWhole ?_
          refine And.intro (fun c2 => ?_) (fun c2 => ?_)
          · refine goN 3 ok_X9_findWhole ?_
            exact k201 v1 v2 _ e1 e2 (by rw [if_neg (fun z => c2 z.2)]; exact r3)
          · refine goN 3 ok_X9_findWhole ?_
            exact k201 v1 v2 _ e1 e2 (by rw [if_pos ⟨by simpa using c1, c2⟩])
      have k156 : ∀ (v1 : Int32), v1 = (if x1 < 0 ∧ off = 0 then nI t else x1) →
          Ex l w true mX9_findWhole (d + 5) Q 156 [some (vr 62), some (vi x7), some (vi (nI t)), some (vi off), some (vi non), some (vi (nI (gWh S).length - ons off.toInt64)), l6] [] (sI h2 679 62 v1) 0 0 := by
        intro v1 e1
        have r2 : hI (sI h2 679 62 v1) 680 62 = x2 := w2
        refine go ok_X9_findWhole ?_
        refine And.intro (fun c1 => ?_) (fun c1 => ?_)
        · refine go ok_X9_findWhole ?_
          refine Cal.z (r_one (b := false) ?_)
          refine goN 2 ok_X9_findWhole ?_
          exact k177 v1 _ e1 (by rw [decide_eq_false c1, r2])
        · refine go ok_X9_findWhole ?_
          refine Cal.z (r_one (b := true) ?_)
          refine goN 2 ok_X9_findWhole ?_
          exact k177 v1 _ e1 (by rw [decide_eq_true c1, r2])
      refine go ok_X9_findWhole ?_
      refine Cal.z (r_ones ?_)
      refine go ok_X9_findWhole ?_
      refine asAnd ?_
      rw [w1]
      rw [hM2.m9.1]
      refine And.intro (fun c1 => ?_) (fun c1 => ?_)
      · refine goN 3 ok_X9_findWhole ?_
        exact k156 _ (by rw [if_neg (fun z => absurd z.1 (by simpa using c1))]; exact w1)
      · refine go ok_X9_findWhole ?_
        refine And.intro (fun c2 => ?_) (fun c2 => ?_)
        · refine goN 3 ok_X9_findWhole ?_
          exact k156 _ (by rw [if_neg (fun z => c2 z.2)]; exact w1)
        · refine goN 3 ok_X9_findWhole ?_
          exact k156 _ (by rw [if_pos ⟨by simpa using c1, c2⟩])
theorem r_findWhole (hM : RM S h) (hv : Inv S) {n0 : Nat} (hn0 : n0 ≤ 3000) (en : gNw S = nI n0) (q : ∀ h', RM S h' → OM h h' → WF (whR S (n0 + 1)) h' → Q none h') : Con l w true (d + 5) HX9_findWhole [vr 62] h 0 0 Q := by
  refine Con.of ok_X9_findWhole (nones := [none, none, none, none, none, none]) rfl (by simp) ?_
  refine go ok_X9_findWhole ?_
  refine r_findWhole_loop (h := h) hv hn0 en q (n0 + 1) 0 _ _ _ _ _ (by omega) hM ?_ ?_
  · exact ((((((OM.rf h).s (by decide)).s (by decide)).s (by decide)).s (by decide)).s (by decide)).s (by decide)
  refine ⟨rfl, rfl, rfl, ?_, rfl, rfl⟩
  show 1 <<< (hI h 677 62 &&& 31) - 1 = _
  rw [hM.m9.1]
  rfl
theorem r_whole (hM : RM S h) (hv : Inv S) {x : Int32} (q : ∀ h', RM S h' → OM h h' → Q (some (vi (wholeA S x))) h') : Con l w true (d + 6) HX9_whole [vr 62, vi x] h 0 0 Q := by
  have h8 := hM.m9.2.1
  obtain ⟨n0, hn0, en⟩ := hv.now
  refine Con.of ok_X9_whole (nones := []) rfl (by simp) ?_
  refine go ok_X9_whole ?_
  refine Cal.z (k_in (lo := 0) (hi := 5) rfl rfl (rfl) (fun c => ?_) (fun c => ?_))
  · rw [wholeA, if_pos c] at q
    have c0 := c
    refine go ok_X9_whole ?_
    refine And.intro (fun c2 => ?_) (fun c2 => absurd c2 (by decide))
    refine go ok_X9_whole ?_
    refine asAnd ?_
    rw [hM.m9.1]
    refine And.intro (fun c3 => ?_) (fun c3 => ?_)
    · replace c3 : ¬ nI (gWh S).length = nI 0 := c3
      rw [nI_eq (by omega) (by omega)] at c3
      rw [if_neg c3, en, nI_clamp (by omega)] at q
      refine go ok_X9_whole ?_
      refine Cal.z (r_findWhole hM hv hn0 en (fun h' hM' ho hw => ?_))
      have q := q h' hM' ho
      refine go ok_X9_whole ?_
      refine And.intro (And.intro (fun c => ?_) (And.intro (fun c => ?_) (And.intro (fun c => ?_) (And.intro (fun c => ?_) (And.intro (fun c => ?_) (True.intro)))))) (fun c => ?_)
      · obtain rfl := toI c
        refine go ok_X9_whole ?_
        exact Qv q hw.1.symm
      · obtain rfl := toI c
        refine go ok_X9_whole ?_
        exact Qv q hw.2.1.symm
      · obtain rfl := toI c
        refine go ok_X9_whole ?_
        exact Qv q hw.2.2.1.symm
      · obtain rfl := toI c
        refine go ok_X9_whole ?_
        exact Qv q hw.2.2.2.1.symm
      · obtain rfl := toI c
        refine go ok_X9_whole ?_
        exact Qv q hw.2.2.2.2.1.symm
      · have e5 : x = 5 := by
          apply Int32.toInt_inj.mp
          have h1 := c0.1
          have h2 := c0.2
          rw [Int32.le_iff_toInt_le] at h1 h2
          simp at h1 h2 ⊢
          omega
        subst e5
        refine go ok_X9_whole ?_
        exact Qv q hw.2.2.2.2.2.symm
    · replace c3 : nI (gWh S).length = nI 0 := c3
      rw [nI_eq (by omega) (by omega)] at c3
      rw [if_pos c3] at q
      refine go ok_X9_whole ?_
      exact q _ hM (OM.rf h)
  · rw [wholeA, if_neg c] at q
    refine go ok_X9_whole ?_
    refine And.intro (fun c2 => absurd c2 (by decide)) (fun c2 => ?_)
    refine go ok_X9_whole ?_
    exact q _ hM (OM.rf h)
end R16

