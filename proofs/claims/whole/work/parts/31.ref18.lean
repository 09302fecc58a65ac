/-! ===== the reference: words, numbers, clauses of rights ===== -/
theorem wEq_false {tx : List Int32} {b : Nat} {ws : List Int32} {P : Bool} {i : Nat} (e : (P && wEq tx b ws i) = false) : ∀ m, (P && wEq tx b ws (i + m)) = false
  | 0 => e
  | m + 1 => by
    have := wEq_false e m
    rw [← Nat.add_assoc, wEq, ← Bool.and_assoc, this, Bool.false_and]
section R18
variable {l : Launch} {w : WD} {d : Nat} {h h0 : AH} {Q : Option AV → AH → Prop} {S : SG} {pos : Nat}
theorem r_isWord {tx : List Int32} {n b lt : Nat} {a0 a1 a2 a3 a4 a5 a6 a7 : Int32} (hM : M6 tx h) (h2 : hI h 662 62 = nI b) (h3 : hI h 663 62 = nI lt) (hb : b + lt ≤ tx.length) (hn : n ≤ 8) (q : Q (some (vi (b2i (decide (lt = n) && wEq tx b [a0, a1, a2, a3, a4, a5, a6, a7] n)))) h) : Con l w true d HX9_isWord [vr 62, vi (nI n), vi a0, vi a1, vi a2, vi a3, vi a4, vi a5, vi a6, vi a7] h 0 0 Q := by
  have h200 := hM.2.1
  have lp : ∀ m i l12, i + m = n → Ex l w true mX9_isWord d Q 18 [some (vr 62), some (vi (nI n)), some (vi a0), some (vi a1), some (vi a2), some (vi a3), some (vi a4), some (vi a5), some (vi a6), some (vi a7), some (vi (b2i (decide (lt = n) && wEq tx b [a0, a1, a2, a3, a4, a5, a6, a7] i))), some (vi (nI i)), l12] [] h 0 0 := by
    intro m
    induction m with
    | zero =>
      intro i l12 hi
      have : i = n := by omega
      subst this
      refine go ok_X9_isWord ?_
      refine asAnd ?_
      rw [nI_leI (by omega) (by omega)]
      refine And.intro (fun c => ?_) (fun c => ?_)
      · refine go ok_X9_isWord ?_
        refine And.intro (b2i_01 _) ?_
        exact q
      · omega
    | succ m ih =>
      intro i l12 hi
      have k106 : ∀ v, v = [a0, a1, a2, a3, a4, a5, a6, a7].getD i 0 → (decide (lt = n) && wEq tx b [a0, a1, a2, a3, a4, a5, a6, a7] i) = true → Ex l w true mX9_isWord d Q 106 [some (vr 62), some (vi (nI n)), some (vi a0), some (vi a1), some (vi a2), some (vi a3), some (vi a4), some (vi a5), some (vi a6), some (vi a7), some (vi (b2i (decide (lt = n) && wEq tx b [a0, a1, a2, a3, a4, a5, a6, a7] i))), some (vi (nI i)), l12] [vi v] h 0 0 := by
        intro v hv et
        have elt : lt = n := by
          rw [Bool.and_eq_true, decide_eq_true_eq] at et
          exact et.1
        have hh := fun l12 => ih (i + 1) l12 (by omega)
        simp only [wEq, ← Bool.and_assoc, et, Bool.true_and, ← nI_1, ← hv] at hh
        have ei : hI h 662 62 + nI i = nI (b + i) := by rw [h2, nI_add]
        refine Ex.lay (fun hy => ?_)
        refine go ok_X9_isWord ?_
        refine And.intro (ix73 hy (k := b + i) ei (by omega)) ?_
        refine asAnd ?_
        rw [ei, t_at hM (by omega)]
        refine And.intro (fun c => ?_) (fun c => ?_)
        · simp only [decide_eq_false c] at hh
          refine go ok_X9_isWord ?_
          refine go ok_X9_isWord ?_
          exact hh _
        · simp only [decide_eq_true c] at hh
          refine go ok_X9_isWord ?_
          refine go ok_X9_isWord ?_
          exact hh _
      refine go ok_X9_isWord ?_
      refine asAnd ?_
      rw [nI_leI (by omega) (by omega)]
      refine And.intro (fun c => ?_) (fun c => ?_)
      · omega
      · refine go ok_X9_isWord ?_
        refine And.intro (fun c2 => ?_) (fun c2 => ?_)
        · have e := wEq_false (b2i_eq.mp c2) (m + 1)
          rw [hi] at e
          rw [e] at q
          rw [b2i_eq.mp c2]
          refine go ok_X9_isWord ?_
          refine And.intro (Or.inl rfl) ?_
          exact q
        · have et := b2i_ne.mp c2
          refine go ok_X9_isWord ?_
          refine And.intro (fun c3 => ?_) (fun c3 => ?_)
          rotate_left
          · replace c3 : nI i = nI 0 := c3
            rw [nI_eq (by omega) (by omega)] at c3
            subst c3
            refine go ok_X9_isWord ?_
            exact k106 a0 rfl et
          replace c3 : ¬ nI i = nI 0 := c3
          rw [nI_eq (by omega) (by omega)] at c3
          have d0 := c3
          refine go ok_X9_isWord ?_
          refine And.intro (fun c3 => ?_) (fun c3 => ?_)
          rotate_left
          · replace c3 : nI i = nI 1 := c3
            rw [nI_eq (by omega) (by omega)] at c3
            subst c3
            refine go ok_X9_isWord ?_
            exact k106 a1 rfl et
          replace c3 : ¬ nI i = nI 1 := c3
          rw [nI_eq (by omega) (by omega)] at c3
          have d1 := c3
          refine go ok_X9_isWord ?_
          refine And.intro (fun c3 => ?_) (fun c3 => ?_)
          rotate_left
          · replace c3 : nI i = nI 2 := c3
            rw [nI_eq (by omega) (by omega)] at c3
            subst c3
            refine go ok_X9_isWord ?_
            exact k106 a2 rfl et
          replace c3 : ¬ nI i = nI 2 := c3
          rw [nI_eq (by omega) (by omega)] at c3
          have d2 := c3
          refine go ok_X9_isWord ?_
          refine And.intro (fun c3 => ?_) (fun c3 => ?_)
          rotate_left
          · replace c3 : nI i = nI 3 := c3
            rw [nI_eq (by omega) (by omega)] at c3
            subst c3
            refine go ok_X9_isWord ?_
            exact k106 a3 rfl et
          replace c3 : ¬ nI i = nI 3 := c3
          rw [nI_eq (by omega) (by omega)] at c3
          have d3 := c3
          refine go ok_X9_isWord ?_
          refine And.intro (fun c3 => ?_) (fun c3 => ?_)
          rotate_left
          · replace c3 : nI i = nI 4 := c3
            rw [nI_eq (by omega) (by omega)] at c3
            subst c3
            refine go ok_X9_isWord ?_
            exact k106 a4 rfl et
          replace c3 : ¬ nI i = nI 4 := c3
          rw [nI_eq (by omega) (by omega)] at c3
          have d4 := c3
          refine go ok_X9_isWord ?_
          refine And.intro (fun c3 => ?_) (fun c3 => ?_)
          rotate_left
          · replace c3 : nI i = nI 5 := c3
            rw [nI_eq (by omega) (by omega)] at c3
            subst c3
            refine go ok_X9_isWord ?_
            exact k106 a5 rfl et
          replace c3 : ¬ nI i = nI 5 := c3
          rw [nI_eq (by omega) (by omega)] at c3
          have d5 := c3
          refine go ok_X9_isWord ?_
          refine And.intro (fun c3 => ?_) (fun c3 => ?_)
          rotate_left
          · replace c3 : nI i = nI 6 := c3
            rw [nI_eq (by omega) (by omega)] at c3
            subst c3
            refine go ok_X9_isWord ?_
            exact k106 a6 rfl et
          replace c3 : ¬ nI i = nI 6 := c3
          rw [nI_eq (by omega) (by omega)] at c3
          have d6 := c3
          have : i = 7 := by omega
          subst this
          refine go ok_X9_isWord ?_
          exact k106 a7 rfl et
  refine Con.of ok_X9_isWord (nones := [none, none, none]) rfl (by simp) ?_
  have k13 : ∀ bb : Bool, bb = decide (lt = n) → Ex l w true mX9_isWord d Q 13 [some (vr 62), some (vi (nI n)), some (vi a0), some (vi a1), some (vi a2), some (vi a3), some (vi a4), some (vi a5), some (vi a6), some (vi a7), none, none, none] [vi (b2i bb)] h 0 0 := by
    intro bb hbb
    have hh := lp n 0 none (by omega)
    rw [wEq, Bool.and_true, ← hbb] at hh
    refine go ok_X9_isWord ?_
    exact hh
  by_cases c0 : lt = n
  · refine go ok_X9_isWord ?_
    refine asAnd ?_
    rw [h3, c0]
    refine And.intro (fun c => absurd rfl c) (fun c => ?_)
    refine go ok_X9_isWord ?_
    exact k13 true (decide_eq_true c0).symm
  · refine go ok_X9_isWord ?_
    refine asAnd ?_
    rw [h3]
    refine And.intro (fun c => ?_) (fun c => ?_)
    · refine go ok_X9_isWord ?_
      exact k13 false (decide_eq_false c0).symm
    · rw [nI_eq (by omega) (by omega)] at c
      exact absurd c c0
/-- of the run of letters at b -/
theorem r_isWordA {tx ws : List Int32} {n b : Nat} {a0 a1 a2 a3 a4 a5 a6 a7 : Int32} (hM : M6 tx h) (h2 : hI h 662 62 = nI b) (h3 : hI h 663 62 = nI (run isLt tx b - b)) (hb : b ≤ tx.length) (hn : n ≤ 8) (e : (decide (run isLt tx b - b = n) && wEq tx b [a0, a1, a2, a3, a4, a5, a6, a7] n) = wAt tx b ws) (q : Q (some (vi (b2i (wAt tx b ws)))) h) : Con l w true d HX9_isWord [vr 62, vi (nI n), vi a0, vi a1, vi a2, vi a3, vi a4, vi a5, vi a6, vi a7] h 0 0 Q := by
  have h1 : run isLt tx b ≤ tx.length := run_le rfl hb
  have h2' : b ≤ run isLt tx b := run_ge rfl b
  exact r_isWord hM h2 h3 (by omega) hn (by rw [e]; exact q)
theorem pNum_ok {tx : List Int32} {lo hi : Int32} {i j : Nat} {v : Int32} (e : pNum tx lo hi i = .inr (j, v)) (hl : i ≤ tx.length) : lo ≤ v ∧ v ≤ hi ∧ i < j ∧ j ≤ tx.length := by
  unfold pNum at e
  have h1 : skp tx i ≤ run isDg tx (skp tx i) := run_ge rfl _
  have h2 : run isDg tx (skp tx i) ≤ tx.length := run_le rfl (skp_le hl)
  have h3 := skp_ge tx i
  split at e
  · cases e
  · split at e
    · rename_i c1 c2
      injection e with e
      injection e with e1 e2
      subst e1 e2
      exact ⟨c2.2.1, c2.2.2, by omega, h2⟩
    · cases e
theorem r_takeNumberF {lo hi : Int32} (hf : 0 < hI h 660 62) (q : Q (some (vi 0)) h) : Con l w true d HX9_takeNumber [vr 62, vi lo, vi hi] h 0 0 Q := by
  refine Con.of ok_X9_takeNumber (nones := [none, none, none]) rfl (by simp) ?_
  refine go ok_X9_takeNumber ?_
  refine And.intro (fun c => absurd hf (by simpa using c)) (fun c => ?_)
  refine go ok_X9_takeNumber ?_
  exact q
theorem r_takeNumber {lo hi : Int32} (ht : okT S h0 pos h) (q1 : ∀ h' k p v, pNum (gTx S) lo hi pos = .inl (k, p) → ftT S h0 k p h' → OT h h' → Q (some (vi v)) h') (q2 : ∀ h' j v, pNum (gTx S) lo hi pos = .inr (j, v) → okT S h0 j h' → OT h h' → hI h' 662 62 = nI (skp (gTx S) pos) → Q (some (vi v)) h') : Con l w true (d + 1) HX9_takeNumber [vr 62, vi lo, vi hi] h 0 0 Q := by
  have h200 := ht.m6.2.1
  have hle := skp_le ht.2.2.2.2
  have hle2 : run isDg (gTx S) (skp (gTx S) pos) ≤ (gTx S).length := run_le rfl hle
  have hge : skp (gTx S) pos ≤ run isDg (gTx S) (skp (gTx S) pos) := run_ge rfl _
  have hM := ht.m6
  unfold pNum at q1 q2
  generalize hb : skp (gTx S) pos = b at *
  generalize he : run isDg (gTx S) b = e at *
  have hf : hI h 660 62 = 0 := ht.2.2.2.1
  have k129 : ∀ c : Int32, ¬ e = b → Ex l w true mX9_takeNumber (d + 1) Q 129 [some (vr 62), some (vi lo), some (vi hi), some (vi c), some (vi (rvN (gTx S) b (e - b))), none] [] (sI (sI (sI h 659 62 (nI b)) 662 62 (nI b)) 659 62 (nI e)) 0 0 := by
    intro c hne
    rw [if_neg hne] at q1 q2
    have e0 : hI (sI (sI (sI h 659 62 (nI b)) 662 62 (nI b)) 659 62 (nI e)) 659 62 - hI (sI (sI (sI h 659 62 (nI b)) 662 62 (nI b)) 659 62 (nI e)) 662 62 = nI (e - b) := by
      show nI e - nI b = nI (e - b)
      exact i32_sub_nI hge
    have bad : ¬ (e - b < 4 ∧ (lo ≤ rvN (gTx S) b (e - b) ∧ rvN (gTx S) b (e - b) ≤ hi)) → Q (some (vi (rvN (gTx S) b (e - b)))) (sI (sI (sI (sI (sI h 659 62 (nI b)) 662 62 (nI b)) 659 62 (nI e)) 660 62 2) 661 62 (nI b)) := by
      intro cb
      rw [if_neg cb] at q1
      exact q1 _ _ _ _ rfl (ht.ft ((((((OT.rf h).s (by decide)).s (by decide)).s (by decide)).s (by decide)).s (by decide)) rfl rfl (by decide)) ((((((OT.rf h).s (by decide)).s (by decide)).s (by decide)).s (by decide)).s (by decide))
    refine go ok_X9_takeNumber ?_
    refine asAnd ?_
    rw [e0]
    refine And.intro (fun c2 => ?_) (fun c2 => ?_)
    · replace c2 : nI 4 ≤ nI (e - b) := c2
      rw [nI_leI (by omega) (by omega)] at c2
      refine go ok_X9_takeNumber ?_
      refine Cal.z (r_want0 hf (by decide) ?_)
      refine go ok_X9_takeNumber ?_
      exact bad (fun z => by omega)
    · replace c2 : ¬ nI 4 ≤ nI (e - b) := c2
      rw [nI_leI (by omega) (by omega)] at c2
      refine go ok_X9_takeNumber ?_
      refine Cal.z (k_in (lo := lo) (hi := hi) rfl rfl rfl (fun c3 => ?_) (fun c3 => ?_))
      · refine go ok_X9_takeNumber ?_
        refine And.intro (fun c4 => absurd c4 (by decide)) (fun c4 => ?_)
        refine go ok_X9_takeNumber ?_
        refine Cal.z (r_want1 hf ?_)
        refine go ok_X9_takeNumber ?_
        rw [if_pos ⟨by omega, c3⟩] at q2
        exact q2 _ _ _ rfl (ht.ot ((((OT.rf h).s (by decide)).s (by decide)).s (by decide)) rfl rfl rfl hle2) ((((OT.rf h).s (by decide)).s (by decide)).s (by decide)) rfl
      · refine go ok_X9_takeNumber ?_
        refine And.intro (fun c4 => ?_) (fun c4 => absurd c4 (by decide))
        refine go ok_X9_takeNumber ?_
        refine Cal.z (r_want0 hf (by decide) ?_)
        refine go ok_X9_takeNumber ?_
        exact bad (fun z => c3 z.2)
  have lp : ∀ n i (c : Int32), (gTx S).length - i = n → i ≤ (gTx S).length → b ≤ i → run isDg (gTx S) i = e → ¬ e = b → Ex l w true mX9_takeNumber (d + 1) Q 50 [some (vr 62), some (vi lo), some (vi hi), some (vi c), some (vi (rvN (gTx S) b (i - b))), none] [] (sI (sI (sI h 659 62 (nI b)) 662 62 (nI b)) 659 62 (nI i)) 0 0 := by
    intro n
    induction n with
    | zero =>
      intro i c hn hi hbi hr hne
      have : i = (gTx S).length := by omega
      subst this
      have e1 : run isDg (gTx S) (gTx S).length = (gTx S).length := run_stop (by rw [tAt_out (Nat.le_refl _)]; rfl)
      rw [e1] at hr
      subst hr
      refine go ok_X9_takeNumber ?_
      refine asAnd ?_
      rw [show hI (sI (sI (sI h 659 62 (nI b)) 662 62 (nI b)) 659 62 (nI (gTx S).length)) 659 62 = nI (gTx S).length from rfl, show hI (sI (sI (sI h 659 62 (nI b)) 662 62 (nI b)) 659 62 (nI (gTx S).length)) 658 62 = nI (gTx S).length from hM.1]
      refine And.intro (fun c2 => ?_) (fun c2 => ?_)
      · exact k129 c hne
      · exact absurd (nI_le (Nat.le_refl _) (by omega)) c2
    | succ n ih =>
      intro i c hn hi hbi hr hne
      refine Ex.lay (fun hy => ?_)
      refine go ok_X9_takeNumber ?_
      refine asAnd ?_
      rw [show hI (sI (sI (sI h 659 62 (nI b)) 662 62 (nI b)) 659 62 (nI i)) 659 62 = nI i from rfl, show hI (sI (sI (sI h 659 62 (nI b)) 662 62 (nI b)) 659 62 (nI i)) 658 62 = nI (gTx S).length from hM.1]
      refine And.intro (fun c2 => ?_) (fun c2 => ?_)
      · exact absurd c2 (nI_ge (by omega) (by omega))
      · have et : (aI (sI (sI (sI h 659 62 (nI b)) 662 62 (nI b)) 659 62 (nI i)) 73).getD (hI (sI (sI (sI h 659 62 (nI b)) 662 62 (nI b)) 659 62 (nI i)) 659 62).toNatClampNeg 0 = tAt (gTx S) i := t_at hM (by omega)
        refine go ok_X9_takeNumber ?_
        refine And.intro (ix73 hy (k := i) rfl (by omega)) ?_
        refine asCal ?_
        rw [et]
        refine Cal.z (k_in (lo := 48) (hi := 57) rfl rfl rfl (fun c3 => ?_) (fun c3 => ?_))
        · have e1 : run isDg (gTx S) i = run isDg (gTx S) (i + 1) := run_step rfl (decide_eq_true c3)
          have hh := ih (i + 1) c (by omega) (by omega) (by omega) (e1 ▸ hr) hne
          rw [show i + 1 - b = (i - b) + 1 by omega, rvN, show b + (i - b) = i by omega, ← nI_1, ← sI_sI _ 659 62 (nI i)] at hh
          refine go ok_X9_takeNumber ?_
          refine And.intro (fun c4 => absurd c4 (by decide)) (fun c4 => ?_)
          refine go ok_X9_takeNumber ?_
          refine And.intro (fun c5 => ?_) (fun c5 => ?_)
          · rw [if_pos c5] at hh
            refine go ok_X9_takeNumber ?_
            refine And.intro (ix73 hy (k := i) rfl (by omega)) ?_
            rw [et]
            refine go ok_X9_takeNumber ?_
            exact hh
          · rw [if_neg c5] at hh
            refine go ok_X9_takeNumber ?_
            refine go ok_X9_takeNumber ?_
            exact hh
        · have e1 : run isDg (gTx S) i = i := run_stop (decide_eq_false c3)
          rw [e1] at hr
          subst hr
          refine go ok_X9_takeNumber ?_
          refine And.intro (fun c4 => ?_) (fun c4 => absurd c4 (by decide))
          exact k129 c hne
  refine Con.of ok_X9_takeNumber (nones := [none, none, none]) rfl (by simp) ?_
  refine go ok_X9_takeNumber ?_
  refine asAnd ?_
  rw [hf]
  refine And.intro (fun c => ?_) (fun c => absurd c (by decide))
  refine go ok_X9_takeNumber ?_
  refine Cal.z (r_peek ht.m6 ht.2.2.1 ht.2.2.2.2 ?_)
  rw [hb]
  refine go ok_X9_takeNumber ?_
  refine Cal.z (k_in (lo := 48) (hi := 57) rfl rfl rfl (fun c3 => ?_) (fun c3 => ?_))
  · refine go ok_X9_takeNumber ?_
    refine Cal.z (r_want1 hf ?_)
    refine go ok_X9_takeNumber ?_
    refine And.intro (fun c4 => ?_) (fun c4 => absurd c4 (by decide))
    have hne : ¬ e = b := by
      have e1 : run isDg (gTx S) b = run isDg (gTx S) (b + 1) := run_step rfl (decide_eq_true c3)
      have : b + 1 ≤ run isDg (gTx S) (b + 1) := run_ge rfl _
      omega
    have hh := lp _ b (tAt (gTx S) b) rfl hle (Nat.le_refl _) he hne
    rw [sI_eq (h := sI (sI h 659 62 (nI b)) 662 62 (nI b)) (f := 659) (a := 62) (v := nI b) rfl, Nat.sub_self] at hh
    refine go ok_X9_takeNumber ?_
    exact hh
  · refine go ok_X9_takeNumber ?_
    refine Cal.z (r_want0 hf (by decide) ?_)
    refine go ok_X9_takeNumber ?_
    refine And.intro (fun c4 => absurd c4 (by decide)) (fun c4 => ?_)
    refine go ok_X9_takeNumber ?_
    have hne : e = b := by rw [← he]; exact run_stop (decide_eq_false c3)
    rw [if_pos hne] at q1
    exact q1 _ _ _ _ rfl (ht.ft (((((OT.rf h).s (by decide)).s (by decide)).s (by decide)).s (by decide)) rfl rfl (by decide)) (((((OT.rf h).s (by decide)).s (by decide)).s (by decide)).s (by decide))
theorem r_takeEndF (hf : 0 < hI h 660 62) (q : Q none h) : Con l w true d HX9_takeEnd [vr 62] h 0 0 Q := by
  refine Con.of ok_X9_takeEnd (nones := [none]) rfl (by simp) ?_
  refine go ok_X9_takeEnd ?_
  refine And.intro (fun c => ?_) (fun c => ?_)
  · refine go ok_X9_takeEnd ?_
    exact q
  · rw [c] at hf
    exact absurd hf (by decide)
theorem r_takeEnd (ht : okT S h0 pos h) (q1 : ∀ h' k p, pSign (gTx S) 59 pos = .inl (k, p) → ftT S h0 k p h' → OT h h' → Q none h') (q2 : ∀ h' j, pSign (gTx S) 59 pos = .inr (j, ()) → okT S h0 j h' → OT h h' → Q none h') : Con l w true (d + 1) HX9_takeEnd [vr 62] h 0 0 Q := by
  have hf : hI h 660 62 = 0 := ht.2.2.2.1
  have hle := skp_le ht.2.2.2.2
  unfold pSign at q1 q2
  generalize hb : skp (gTx S) pos = b at *
  refine Con.of ok_X9_takeEnd (nones := [none]) rfl (by simp) ?_
  refine go ok_X9_takeEnd ?_
  refine asAnd ?_
  rw [hf]
  refine And.intro (fun c => absurd c (by decide)) (fun c => ?_)
  refine go ok_X9_takeEnd ?_
  refine Cal.z (r_peek ht.m6 ht.2.2.1 ht.2.2.2.2 ?_)
  rw [hb]
  refine go ok_X9_takeEnd ?_
  refine And.intro (fun c2 => ?_) (fun c2 => ?_)
  · rw [if_neg c2] at q1
    refine go ok_X9_takeEnd ?_
    refine Cal.z (r_want0 hf (by decide) ?_)
    refine go ok_X9_takeEnd ?_
    refine Cal.z (r_one (b := false) ?_)
    refine go ok_X9_takeEnd ?_
    exact q1 _ _ _ rfl (ht.ft (((((OT.rf h).s (by decide)).s (by decide)).s (by decide)).s (by decide)) rfl rfl (by decide)) (((((OT.rf h).s (by decide)).s (by decide)).s (by decide)).s (by decide))
  · rw [if_pos c2] at q2
    have hlt : b < (gTx S).length := by
      rcases Nat.lt_or_ge b (gTx S).length with z | z
      · exact z
      · rw [tAt_out z] at c2; exact absurd c2 (by decide)
    refine go ok_X9_takeEnd ?_
    refine Cal.z (r_want1 hf ?_)
    refine go ok_X9_takeEnd ?_
    refine Cal.z (r_one (b := true) ?_)
    refine go ok_X9_takeEnd ?_
    exact q2 _ _ rfl (ht.ot (((OT.rf h).s (by decide)).s (by decide)) (nI_1 b) rfl rfl (by omega)) (((OT.rf h).s (by decide)).s (by decide))
end R18

