/-! ===== the reference: go, page, look, take, told, pieces, view, count ===== -/
theorem toI {x : Int32} {n : Int} (e : x.toInt = n) : x = Int32.ofInt n := by rw [← e, Int32.ofInt_toInt]
theorem outT {x : Int32} {k : Nat} (hk : k < 2 ^ 31) (c : x.toInt < 0 ∨ (k : Int) < x.toInt) : ¬ (0 ≤ x ∧ x ≤ nI k) := by
  rintro ⟨a, b⟩
  rw [Int32.le_iff_toInt_le] at a b
  rw [nI_toInt hk] at b
  simp at a
  omega
theorem asAnd {A B : Prop} (h : A ∧ B) : A ∧ B := h
theorem asCal {l : Launch} {w : WD} {lm : Bool} {d : Nat} {M : MH} {as : List AV} {h : AH} {bc bs : Nat} {K : Option AV → AH → Nat → Nat → Prop} (k : Cal l w lm d M as h bc bs K) : Cal l w lm d M as h bc bs K := k
theorem i32_add_sub (x : Int32) : x + 1 - 1 = x := by rw [Int32.add_sub_cancel]
section R7
variable {l : Launch} {w : WD} {d : Nat} {h : AH} {Q : Option AV → AH → Prop} {S : SG}
theorem RM.m2 (hM : RM S h) : M2 (gDs S) h := hM.2.1
theorem RM.m3 (hM : RM S h) : M3 (gD S) h := hM.2.2.1
theorem RM.hs (hM : RM S h) : aL h 69 = gHs S := hM.2.2.2.1
theorem RM.m5 (hM : RM S h) : M5 (gRt S) h := hM.2.2.2.2.1
theorem RM.m6 (hM : RM S h) : M6 (gTx S) h := hM.2.2.2.2.2.1
theorem RM.fl (hM : RM S h) : hI h 661 62 = gFl S := hM.2.2.2.2.2.2.1
theorem RM.m8 (hM : RM S h) : M8 (gPr S) h := hM.2.2.2.2.2.2.2.1
theorem RM.m9 (hM : RM S h) : M9 (gWh S) h := hM.2.2.2.2.2.2.2.2
theorem RM.m5a (hM : RM S h) : M5a (gCl S) (gPt S) h := ⟨hM.m5.2.2.2.2, hM.m5.2.2.2.1⟩
theorem r_go (hM : RM S h) {n : Int32} (q : ∀ h', RM (goF S n).2 h' → OM h h' → Q (some (vi (goF S n).1)) h') : Con l w true (d + 1) HX9_go [vr 62, vi n] h 0 0 Q := by
  refine Con.of ok_X9_go (nones := []) rfl (by simp) ?_
  refine go ok_X9_go ?_
  refine Cal.z (k_in (lo := 0) (hi := 500) rfl rfl (rfl) (fun c => ?_) (fun c => ?_))
  · refine go ok_X9_go ?_
    refine And.intro (fun c2 => ?_) (fun c2 => absurd c2 (by decide))
    refine go ok_X9_go ?_
    refine asAnd ?_
    rw [hM.1]
    refine And.intro (fun c3 => ?_) (fun c3 => ?_)
    · refine go ok_X9_go ?_
      rw [goF, if_pos c, if_pos c3] at q
      rw [← hM.1] at q
      exact q _ ⟨rfl, hM.2⟩ ((OM.rf h).s (by decide))
    · refine go ok_X9_go ?_
      rw [goF, if_pos c, if_neg c3] at q
      exact q _ hM (OM.rf h)
  · refine go ok_X9_go ?_
    refine And.intro (fun c2 => absurd c2 (by decide)) (fun c2 => ?_)
    refine go ok_X9_go ?_
    rw [goF, if_neg c] at q
    exact q _ hM (OM.rf h)
theorem r_page (hM : RM S h) {n : Int32} (q : ∀ h', RM (pageF S n).2 h' → OM h h' → Q (some (vi (pageF S n).1)) h') : Con l w true (d + 1) HX9_page [vr 62, vi n] h 0 0 Q := by
  have h12 := hM.m2.2.1
  refine Con.of ok_X9_page (nones := []) rfl (by simp) ?_
  refine Ex.lay (fun hy => ?_)
  refine go ok_X9_page ?_
  refine Cal.z (k_in (lo := 0) (hi := 5) rfl rfl (rfl) (fun c => ?_) (fun c => ?_))
  · refine go ok_X9_page ?_
    refine And.intro (fun c2 => ?_) (fun c2 => absurd c2 (by decide))
    refine go ok_X9_page ?_
    refine asAnd ?_
    rw [hM.m2.1]
    refine And.intro (fun c3 => ?_) (fun c3 => ?_)
    · replace c3 : ¬ nI (gDs S).length = nI 12 := c3
      rw [nI_eq (by omega) (by omega)] at c3
      refine go ok_X9_page ?_
      refine And.intro (jx63 hy hM.m2.1 (by omega)) ?_
      rw [pageF, if_pos c, if_neg c3] at q
      have e : (nI (gDs S).length).toNatClampNeg = (gDs S).length := nI_clamp (by omega)
      rw [hM.m2.1, e]
      refine Qv (q _ ⟨hM.1, ⟨?_, by show (gDs S ++ [n]).length ≤ 12; simp; omega, fun i hi => ?_⟩, hM.2.2⟩ (((OM.rf h).t (by decide)).s (by decide))) ?_
      · show hI h 641 62 + 1 = nI (gDs S ++ [n]).length
        rw [hM.m2.1, nI_1, List.length_append]; rfl
      · show ((aI h 63).set (gDs S).length n).getD i 0 = (gDs S ++ [n]).getD i 0
        replace hi : i < (gDs S ++ [n]).length := hi
        rw [List.length_append, List.length_singleton] at hi
        rw [getD_set, getD_snoc, yn63 hy]
        by_cases c : i = (gDs S).length
        · rw [if_pos ⟨c, by omega⟩, if_neg (by omega), if_pos c]
        · rw [if_neg (fun z => c z.1), if_pos (by omega)]; exact hM.m2.2.2 i (by omega)
      · show nI (gDs S).length = hI h 641 62 + 1 - 1
        rw [hM.m2.1, i32_add_sub]
    · replace c3 : nI (gDs S).length = nI 12 := c3
      rw [nI_eq (by omega) (by omega)] at c3
      refine go ok_X9_page ?_
      rw [pageF, if_pos c, if_pos c3] at q
      exact q _ hM (OM.rf h)
  · refine go ok_X9_page ?_
    refine And.intro (fun c2 => absurd c2 (by decide)) (fun c2 => ?_)
    refine go ok_X9_page ?_
    rw [pageF, if_neg c] at q
    exact q _ hM (OM.rf h)
theorem r_isLet_loop (hM : RM S h) (hv : Inv S) {k : Nat} (hk : k < 6) (q : Q (some (vi (b2i (letR S k (gD S).length)))) h) : ∀ n i, i + n = (gD S).length → Ex l w true mX9_isLet d Q 17 [some (vr 62), some (vi (nI k)), some (vi (b2i (letR S k i))), some (vi (nI i))] [] h 0 0 := by
  have hD := hM.m3.2.1
  have h12 := hM.m2.2.1
  intro n
  induction n with
  | zero =>
    intro i hi
    have : i = (gD S).length := by omega
    subst this
    refine go ok_X9_isLet ?_
    refine asAnd ?_
    rw [hM.m3.1]
    refine And.intro (fun c => ?_) (fun c => ?_)
    · refine go ok_X9_isLet ?_
      refine And.intro (b2i_01 _) ?_
      exact q
    · exact absurd (nI_le (Nat.le_refl _) (by omega)) c
  | succ n ih =>
    intro i hi
    have hlt : i < (gD S).length := by omega
    have hp := hv.pg hlt
    have di := hM.m3.2.2 i hlt
    have ei : (nI i).toNatClampNeg = i := nI_clamp (by omega)
    have k69 : ∀ b : Bool, b = letR S k (i + 1) → Ex l w true mX9_isLet d Q 69 [some (vr 62), some (vi (nI k)), some (vi (b2i (letR S k i))), some (vi (nI i))] [vi (b2i b)] h 0 0 := by
      intro b hb
      have hh := ih (i + 1) (by omega)
      rw [← hb, ← nI_1] at hh
      refine go ok_X9_isLet ?_
      exact hh
    refine Ex.lay (fun hy => ?_)
    refine go ok_X9_isLet ?_
    refine asAnd ?_
    rw [hM.m3.1]
    refine And.intro (fun c => ?_) (fun c => ?_)
    · exact absurd c (nI_ge hlt (by omega))
    · refine go ok_X9_isLet ?_
      refine And.intro (fun c2 => ?_) (fun c2 => ?_)
      · refine go ok_X9_isLet ?_
        exact k69 false (by rw [letR, b2i_eq.mp c2]; rfl)
      · have c2' := b2i_ne.mp c2
        refine go ok_X9_isLet ?_
        refine And.intro (ix64 hy rfl (by omega)) ?_
        rw [ei, di.1]
        refine And.intro (ix63 hy rfl (by omega)) ?_
        rw [nI_clamp (by omega), hM.m2.2.2 _ hp]
        refine And.intro (fun c3 => ?_) (fun c3 => ?_)
        · refine go ok_X9_isLet ?_
          refine k69 true ?_
          rw [letR, c2', show decide (doorD S i = nI k) = false from decide_eq_false c3]
          rfl
        · refine go ok_X9_isLet ?_
          refine And.intro (ix65 hy rfl (by omega)) ?_
          refine And.intro (ix71 hy rfl (by omega)) ?_
          rw [hM.1, ei, di.2.1, nI_clamp (by omega), hM.m5.2.1]
          refine And.intro (fun c4 => ?_) (fun c4 => ?_)
          · refine go ok_X9_isLet ?_
            refine k69 false ?_
            rw [letR, c2', show decide (doorD S i = nI k) = true from decide_eq_true c3, show decide (gNw S - hrD (gD S) i < (gLt S).getD k 0) = true from decide_eq_true c4]
            rfl
          · refine go ok_X9_isLet ?_
            refine k69 true ?_
            rw [letR, c2', show decide (doorD S i = nI k) = true from decide_eq_true c3, show decide (gNw S - hrD (gD S) i < (gLt S).getD k 0) = false from decide_eq_false c4]
            rfl
theorem r_isLet (hM : RM S h) (hv : Inv S) {k : Nat} (hk : k < 6) (q : Q (some (vi (b2i (letR S k (gD S).length)))) h) : Con l w true d HX9_isLet [vr 62, vi (nI k)] h 0 0 Q := by
  refine Con.of ok_X9_isLet (nones := [none, none]) rfl (by simp) ?_
  refine Ex.lay (fun hy => ?_)
  have k14 : ∀ b : Bool, b = letR S k 0 → Ex l w true mX9_isLet d Q 14 [some (vr 62), some (vi (nI k)), none, none] [vi (b2i b)] h 0 0 := by
    intro b hb
    refine go ok_X9_isLet ?_
    rw [hb]
    exact r_isLet_loop hM hv hk q (gD S).length 0 (by omega)
  refine go ok_X9_isLet ?_
  refine And.intro (ix70 hy rfl (by omega)) ?_
  rw [nI_clamp (by omega), hM.m5.1]
  refine And.intro (fun c => ?_) (fun c => ?_)
  · refine go ok_X9_isLet ?_
    exact k14 false (decide_eq_false c).symm
  · refine go ok_X9_isLet ?_
    exact k14 true (decide_eq_true c).symm
end R7

