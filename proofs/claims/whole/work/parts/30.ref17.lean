/-! ===== the reference: texts ===== -/
def OT (h h' : AH) : Prop := (∀ f a, f < 659 ∨ 663 < f → hI h' f a = hI h f a) ∧ hL h' = hL h ∧ hR h' = hR h ∧ aI h' = aI h ∧ aL h' = aL h ∧ aR h' = aR h ∧ hC h' = hC h ∧ hZ h' = hZ h
theorem OT.rf (h : AH) : OT h h := ⟨fun _ _ _ => rfl, rfl, rfl, rfl, rfl, rfl, rfl, rfl⟩
theorem OT.tr {h h' h'' : AH} (a : OT h h') (b : OT h' h'') : OT h h'' := ⟨fun f x hf => (b.1 f x hf).trans (a.1 f x hf), b.2.1.trans a.2.1, b.2.2.1.trans a.2.2.1, b.2.2.2.1.trans a.2.2.2.1, b.2.2.2.2.1.trans a.2.2.2.2.1, b.2.2.2.2.2.1.trans a.2.2.2.2.2.1, b.2.2.2.2.2.2.1.trans a.2.2.2.2.2.2.1, b.2.2.2.2.2.2.2.trans a.2.2.2.2.2.2.2⟩
theorem OT.s {h h' : AH} {f a : Nat} {v : Int32} (b : OT h h') (hf : 659 ≤ f ∧ f ≤ 663) : OT h (sI h' f a v) := b.tr
  ⟨fun g x hg => by show up2 (hI h') f a v g x = hI h' g x; unfold up2; rw [if_neg (fun z => by omega)], rfl, rfl, rfl, rfl, rfl, rfl, rfl⟩
theorem OT.om {h h' : AH} (b : OT h h') : OM h h' := by
  obtain ⟨a1, a2, a3, a4, a5, a6, a7, a8⟩ := b
  exact ⟨fun n => by rw [a7], fun f a hf => ⟨a1 f a (by omega), by rw [a2], by rw [a3]⟩, fun a _ => ⟨by rw [a4], by rw [a5]⟩, fun a => by rw [a6], a8⟩
theorem RM.ot {S : SG} {p p' : Int32} {h h' : AH} (hM : RM (sFl S p) h) (b : OT h h') (e : hI h' 661 62 = p') : RM (sFl S p') h' := by
  obtain ⟨a1, a2, a3, a4, a5, a6, a7, a8⟩ := b
  obtain ⟨m1, m2, m3, m4, m5, m6, -, m8, m9⟩ := hM
  unfold M2 M3 M5 M6 M8 M9 at *
  unfold RM M2 M3 M5 M6 M8 M9
  rw [a1 640 62 (by decide), a1 641 62 (by decide), a1 643 62 (by decide), a1 652 62 (by decide), a1 653 62 (by decide), a1 658 62 (by decide), a1 677 62 (by decide), a2, a4, a5]
  exact ⟨m1, m2, m3, m4, m5, m6, e, m8, m9⟩
theorem sI_sI (h : AH) (f a : Nat) (v v' : Int32) : sI (sI h f a v) f a v' = sI h f a v' := by
  unfold sI
  simp only [hC, hI, hL, hR, aI, aL, aR, hZ]
  rw [up2_up2]
theorem sI_eq {h : AH} {f a : Nat} {v : Int32} (e : hI h f a = v) : sI h f a v = h := by rw [← e]; exact sI_self h f a
/-- going on at pos; behind a fault -/
def okT (S : SG) (h0 : AH) (pos : Nat) (h : AH) : Prop := RM (sFl S (-1)) h ∧ OM h0 h ∧ hI h 659 62 = nI pos ∧ hI h 660 62 = 0 ∧ pos ≤ (gTx S).length
def ftT (S : SG) (h0 : AH) (k p : Int32) (h : AH) : Prop := RM (sFl S p) h ∧ OM h0 h ∧ hI h 660 62 = k ∧ 0 < k
section R17
variable {l : Launch} {w : WD} {d : Nat} {h h0 : AH} {Q : Option AV → AH → Prop} {S : SG} {pos : Nat}
theorem okT.m6 (ht : okT S h0 pos h) : M6 (gTx S) h := ht.1.m6
theorem okT.ot {h' : AH} {pos' : Nat} (ht : okT S h0 pos h) (b : OT h h') (e1 : hI h' 659 62 = nI pos') (e2 : hI h' 660 62 = hI h 660 62) (e3 : hI h' 661 62 = hI h 661 62) (hl : pos' ≤ (gTx S).length) : okT S h0 pos' h' :=
  ⟨ht.1.ot b (e3.trans ht.1.fl), ht.2.1.tr b.om, e1, e2.trans ht.2.2.2.1, hl⟩
theorem okT.ft {h' : AH} {k p : Int32} (ht : okT S h0 pos h) (b : OT h h') (e2 : hI h' 660 62 = k) (e3 : hI h' 661 62 = p) (hk : 0 < k) : ftT S h0 k p h' :=
  ⟨ht.1.ot b e3, ht.2.1.tr b.om, e2, hk⟩
theorem t_at {tx : List Int32} (hM : M6 tx h) {i : Nat} (hi : i < tx.length) : (aI h 73).getD (nI i).toNatClampNeg 0 = tAt tx i := by
  have := hM.2.1
  rw [nI_clamp (by omega), tAt_in hi]
  exact hM.2.2 i hi
theorem r_peek {tx : List Int32} (hM : M6 tx h) (hp : hI h 659 62 = nI pos) (hl : pos ≤ tx.length) (q : Q (some (vi (tAt tx (skp tx pos)))) (sI h 659 62 (nI (skp tx pos)))) : Con l w true d HX9_peek [vr 62] h 0 0 Q := by
  have h200 := hM.2.1
  have k38 : Ex l w true mX9_peek d Q 38 [some (vr 62)] [] (sI h 659 62 (nI (skp tx pos))) 0 0 := by
    have hle := skp_le hl
    refine Ex.lay (fun hy => ?_)
    refine go ok_X9_peek ?_
    refine asAnd ?_
    rw [show hI (sI h 659 62 (nI (skp tx pos))) 659 62 = nI (skp tx pos) from rfl, show hI (sI h 659 62 (nI (skp tx pos))) 658 62 = nI tx.length from hM.1, nI_leI (by omega) (by omega)]
    refine And.intro (fun c => ?_) (fun c => ?_)
    · refine go ok_X9_peek ?_
      rw [tAt_out c] at q
      exact q
    · refine go ok_X9_peek ?_
      refine And.intro (ix73 hy (k := skp tx pos) rfl (by omega)) ?_
      refine Qv q ?_
      exact (t_at hM (by omega)).symm
  have lp : ∀ n i, tx.length - i = n → i ≤ tx.length → skp tx i = skp tx pos → Ex l w true mX9_peek d Q 0 [some (vr 62)] [] (sI h 659 62 (nI i)) 0 0 := by
    intro n
    induction n with
    | zero =>
      intro i hn hi he
      have : i = tx.length := by omega
      subst this
      have e : skp tx tx.length = tx.length := run_stop (by rw [tAt_out (Nat.le_refl _)]; rfl)
      rw [← he, e] at k38
      refine go ok_X9_peek ?_
      refine asAnd ?_
      rw [show hI (sI h 659 62 (nI tx.length)) 659 62 = nI tx.length from rfl, show hI (sI h 659 62 (nI tx.length)) 658 62 = nI tx.length from hM.1]
      refine And.intro (fun c => ?_) (fun c => ?_)
      · exact k38
      · exact absurd (nI_le (Nat.le_refl _) (by omega)) c
    | succ n ih =>
      intro i hn hi he
      refine Ex.lay (fun hy => ?_)
      refine go ok_X9_peek ?_
      refine asAnd ?_
      rw [show hI (sI h 659 62 (nI i)) 659 62 = nI i from rfl, show hI (sI h 659 62 (nI i)) 658 62 = nI tx.length from hM.1]
      refine And.intro (fun c => ?_) (fun c => ?_)
      · exact absurd c (nI_ge (by omega) (by omega))
      · refine go ok_X9_peek ?_
        refine And.intro (ix73 hy (k := i) rfl (by omega)) ?_
        refine asAnd ?_
        rw [show (aI (sI h 659 62 (nI i)) 73).getD (hI (sI h 659 62 (nI i)) 659 62).toNatClampNeg 0 = tAt tx i from t_at hM (by omega)]
        refine And.intro (fun c2 => ?_) (fun c2 => ?_)
        · have e : skp tx i = i := run_stop (decide_eq_false c2)
          rw [← he, e] at k38
          exact k38
        · have e : skp tx i = skp tx (i + 1) := run_step rfl (decide_eq_true c2)
          have hh := ih (i + 1) (by omega) (by omega) (e ▸ he)
          rw [← nI_1] at hh
          rw [← sI_sI h 659 62 (nI i)] at hh
          refine go ok_X9_peek ?_
          exact hh
  refine Con.of ok_X9_peek (nones := []) rfl (by simp) ?_
  have hh := lp _ pos rfl hl rfl
  rw [sI_eq hp] at hh
  exact hh
theorem r_want1 {k at_ : Int32} (hf : hI h 660 62 = 0) (q : Q (some (vi 1)) h) : Con l w true d HX9_want [vr 62, vi 1, vi k, vi at_] h 0 0 Q := by
  refine Con.of ok_X9_want (nones := []) rfl (by simp) ?_
  refine go ok_X9_want ?_
  refine And.intro (fun c => ?_) (fun c => absurd c (by decide))
  refine go ok_X9_want ?_
  refine asAnd ?_
  rw [hf]
  refine And.intro (fun c2 => absurd c2 (by decide)) (fun c2 => ?_)
  refine go ok_X9_want ?_
  refine And.intro (Or.inr rfl) ?_
  exact q
theorem r_want0 {k at_ : Int32} (hf : hI h 660 62 = 0) (hk : 0 < k) (q : Q (some (vi 0)) (sI (sI h 660 62 k) 661 62 at_)) : Con l w true d HX9_want [vr 62, vi 0, vi k, vi at_] h 0 0 Q := by
  refine Con.of ok_X9_want (nones := []) rfl (by simp) ?_
  refine go ok_X9_want ?_
  refine And.intro (fun c => absurd c (by decide)) (fun c => ?_)
  refine go ok_X9_want ?_
  refine asAnd ?_
  rw [hf]
  refine And.intro (fun c2 => absurd c2 (by decide)) (fun c2 => ?_)
  refine go ok_X9_want ?_
  refine go ok_X9_want ?_
  refine And.intro (fun c3 => ?_) (fun c3 => ?_)
  · refine go ok_X9_want ?_
    refine And.intro (Or.inl rfl) ?_
    exact q
  · replace c3 : k = 0 := c3
    subst c3
    exact absurd hk (by decide)
theorem r_takeWord (ht : okT S h0 pos h) (q : ∀ h', okT S h0 (run isLt (gTx S) (skp (gTx S) pos)) h' → OT h h' → hI h' 662 62 = nI (skp (gTx S) pos) → hI h' 663 62 = nI (run isLt (gTx S) (skp (gTx S) pos) - skp (gTx S) pos) → Q none h') : Con l w true (d + 1) HX9_takeWord [vr 62] h 0 0 Q := by
  have h200 := ht.m6.2.1
  have hle := skp_le ht.2.2.2.2
  have hle2 : run isLt (gTx S) (skp (gTx S) pos) ≤ (gTx S).length := run_le rfl hle
  have hge : skp (gTx S) pos ≤ run isLt (gTx S) (skp (gTx S) pos) := run_ge rfl _
  have hM := ht.m6
  generalize hb : skp (gTx S) pos = b at *
  generalize he : run isLt (gTx S) b = e at *
  have k59 : ∀ c : Int32, Ex l w true mX9_takeWord (d + 1) Q 59 [some (vr 62), some (vi c)] [] (sI (sI (sI h 659 62 (nI b)) 662 62 (nI b)) 659 62 (nI e)) 0 0 := by
    intro c
    refine go ok_X9_takeWord ?_
    refine q _ ?_ ?_ rfl ?_
    · exact ht.ot (((((OT.rf h).s (by decide)).s (by decide)).s (by decide)).s (by decide)) rfl rfl rfl hle2
    · exact ((((OT.rf h).s (by decide)).s (by decide)).s (by decide)).s (by decide)
    · show nI e - nI b = nI (e - b)
      exact i32_sub_nI hge
  have lp : ∀ n i (c : Int32), (gTx S).length - i = n → i ≤ (gTx S).length → run isLt (gTx S) i = e → Ex l w true mX9_takeWord (d + 1) Q 13 [some (vr 62), some (vi c)] [] (sI (sI (sI h 659 62 (nI b)) 662 62 (nI b)) 659 62 (nI i)) 0 0 := by
    intro n
    induction n with
    | zero =>
      intro i c hn hi hr
      have : i = (gTx S).length := by omega
      subst this
      have e1 : run isLt (gTx S) (gTx S).length = (gTx S).length := run_stop (by rw [tAt_out (Nat.le_refl _)]; rfl)
      rw [e1] at hr
      rw [← hr] at k59
      refine go ok_X9_takeWord ?_
      refine asAnd ?_
      rw [show hI (sI (sI (sI h 659 62 (nI b)) 662 62 (nI b)) 659 62 (nI (gTx S).length)) 659 62 = nI (gTx S).length from rfl, show hI (sI (sI (sI h 659 62 (nI b)) 662 62 (nI b)) 659 62 (nI (gTx S).length)) 658 62 = nI (gTx S).length from hM.1]
      refine And.intro (fun c2 => ?_) (fun c2 => ?_)
      · exact k59 c
      · exact absurd (nI_le (Nat.le_refl _) (by omega)) c2
    | succ n ih =>
      intro i c hn hi hr
      refine Ex.lay (fun hy => ?_)
      refine go ok_X9_takeWord ?_
      refine asAnd ?_
      rw [show hI (sI (sI (sI h 659 62 (nI b)) 662 62 (nI b)) 659 62 (nI i)) 659 62 = nI i from rfl, show hI (sI (sI (sI h 659 62 (nI b)) 662 62 (nI b)) 659 62 (nI i)) 658 62 = nI (gTx S).length from hM.1]
      refine And.intro (fun c2 => ?_) (fun c2 => ?_)
      · exact absurd c2 (nI_ge (by omega) (by omega))
      · refine go ok_X9_takeWord ?_
        refine And.intro (ix73 hy (k := i) rfl (by omega)) ?_
        refine asCal ?_
        rw [show (aI (sI (sI (sI h 659 62 (nI b)) 662 62 (nI b)) 659 62 (nI i)) 73).getD (hI (sI (sI (sI h 659 62 (nI b)) 662 62 (nI b)) 659 62 (nI i)) 659 62).toNatClampNeg 0 = tAt (gTx S) i from t_at hM (by omega)]
        refine Cal.z (k_in (lo := 97) (hi := 122) rfl rfl rfl (fun c3 => ?_) (fun c3 => ?_))
        · have e1 : run isLt (gTx S) i = run isLt (gTx S) (i + 1) := run_step rfl (decide_eq_true c3)
          have hh := ih (i + 1) c (by omega) (by omega) (e1 ▸ hr)
          rw [← nI_1, ← sI_sI _ 659 62 (nI i)] at hh
          refine go ok_X9_takeWord ?_
          refine And.intro (fun c4 => absurd c4 (by decide)) (fun c4 => ?_)
          refine go ok_X9_takeWord ?_
          exact hh
        · have e1 : run isLt (gTx S) i = i := run_stop (decide_eq_false c3)
          rw [← hr, e1] at k59
          refine go ok_X9_takeWord ?_
          refine And.intro (fun c4 => ?_) (fun c4 => absurd c4 (by decide))
          exact k59 c
  refine Con.of ok_X9_takeWord (nones := [none]) rfl (by simp) ?_
  refine go ok_X9_takeWord ?_
  refine Cal.z (r_peek ht.m6 ht.2.2.1 ht.2.2.2.2 ?_)
  rw [hb]
  have hh := lp _ b (tAt (gTx S) b) rfl hle he
  rw [sI_eq (h := sI (sI h 659 62 (nI b)) 662 62 (nI b)) (f := 659) (a := 62) (v := nI b) rfl] at hh
  refine go ok_X9_takeWord ?_
  exact hh
end R17

