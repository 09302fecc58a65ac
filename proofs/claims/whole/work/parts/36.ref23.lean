/-! ===== the reference: program ===== -/
theorem pBd_inv {α β : Type} {x : PR α} {f : Nat → α → PR β} {y : Nat × β} (e : pBd x f = .inr y) : ∃ i a, x = .inr (i, a) ∧ f i a = .inr y := by
  rcases x with z | ⟨i, a⟩
  · cases e
  · exact ⟨i, a, rfl, e⟩
theorem pWord_ok {tx ws : List Int32} {i j : Nat} {u : Unit} (e : pWord tx ws i = .inr (j, u)) (hi : i ≤ tx.length) : i ≤ j ∧ j ≤ tx.length := by
  have h1 := skp_ge tx i
  have h2 : skp tx i ≤ run isLt tx (skp tx i) := run_ge rfl _
  have h3 : run isLt tx (skp tx i) ≤ tx.length := run_le rfl (skp_le hi)
  unfold pWord at e
  split at e
  · injection e with e; injection e with a b; omega
  · cases e
theorem pClsB_ok {tx : List Int32} {b j : Nat} {c : CLS} (e : pClsB tx b = .inr (j, c)) (hb : b ≤ tx.length) : b < j ∧ clOK c := by
  have h2 : b ≤ run isLt tx b := run_ge rfl _
  have h3 : run isLt tx b ≤ tx.length := run_le rfl hb
  unfold pClsB at e
  obtain ⟨i1, a1, e1, e⟩ := pBd_inv e
  obtain ⟨i2, a2, e2, e⟩ := pBd_inv e
  injection e with e
  injection e with g1 g2
  subst g1 g2
  have := pSign_ok e2
  suffices b ≤ i1 ∧ clOK a1 by exact ⟨by omega, this.2⟩
  split at e1
  · obtain ⟨i3, a3, e3, e1⟩ := pBd_inv e1
    injection e1 with e1
    injection e1 with g1 g2
    subst g1 g2
    obtain ⟨f1, f2, f3, f4⟩ := pNum_ok e3 h3
    exact ⟨by omega, ⟨f1, f2⟩, (by decide : (0 : Int32) ≤ 0 ∧ (0 : Int32) ≤ 999), (by decide : (-1 : Int32) ≤ 1 ∧ (1 : Int32) ≤ 999)⟩
  · split at e1
    · obtain ⟨i3, a3, e3, e1⟩ := pBd_inv e1
      obtain ⟨i4, a4, e4, e1⟩ := pBd_inv e1
      obtain ⟨i5, a5, e5, e1⟩ := pBd_inv e1
      injection e1 with e1
      injection e1 with g1 g2
      subst g1 g2
      obtain ⟨f1, f2, f3, f4⟩ := pNum_ok e3 h3
      obtain ⟨g1, g2⟩ := pWord_ok e4 f4
      obtain ⟨k1, k2, k3, k4⟩ := pNum_ok e5 g2
      exact ⟨by omega, ⟨f1, f2⟩, ⟨k1, k2⟩, (by decide : (-1 : Int32) ≤ -1 ∧ (-1 : Int32) ≤ 999)⟩
    · obtain ⟨i3, a3, e3, e1⟩ := pBd_inv e1
      obtain ⟨i4, a4, e4, e1⟩ := pBd_inv e1
      obtain ⟨i5, a5, e5, e1⟩ := pBd_inv e1
      obtain ⟨i6, a6, e6, e1⟩ := pBd_inv e1
      obtain ⟨i7, a7, e7, e1⟩ := pBd_inv e1
      injection e1 with e1
      injection e1 with g1 g2
      subst g1 g2
      obtain ⟨f1, f2, f3, f4⟩ := pNum_ok e3 h3
      obtain ⟨g1, g2⟩ := pWord_ok e4 f4
      obtain ⟨k1, k2, k3, k4⟩ := pNum_ok e5 g2
      obtain ⟨m1, m2⟩ := pWord_ok e6 k4
      obtain ⟨n1, n2, n3, n4⟩ := pNum_ok e7 m2
      exact ⟨by omega, ⟨f1, f2⟩, ⟨k1, k2⟩, ⟨Int32.le_trans (by decide) n1, n2⟩⟩
theorem tI_abc {h : AH} {a b c : Nat} {v v2 w w2 u u2 : List Int32} (hab : ¬ a = b) (hac : ¬ a = c) (hbc : ¬ b = c) : tI (tI (tI (tI (tI (tI h a v) b w) c u) a v2) b w2) c u2 = tI (tI (tI h a v2) b w2) c u2 := by
  unfold tI
  simp only [hC, hI, hL, hR, aI, aL, aR, hZ]
  congr 5
  funext x
  unfold up1
  by_cases e1 : x = c
  · simp [e1]
  · by_cases e2 : x = b
    · simp [e1, e2]
    · by_cases e3 : x = a
      · simp [e1, e2, e3]
      · simp [e1, e2, e3]
/-- a row with the first i of a list put in at b -/
def putC (r : List Int32) (b i : Nat) (g : Nat → Int32) (r' : List Int32) : Prop := r'.length = r.length ∧ ∀ j, r'.getD j 0 = if b ≤ j ∧ j < b + i then g (j - b) else r.getD j 0
theorem putC.rf (r : List Int32) (b : Nat) (g : Nat → Int32) : putC r b 0 g r := ⟨rfl, fun j => by rw [if_neg (by omega)]⟩
theorem putC.s {r r' : List Int32} {b i : Nat} {g : Nat → Int32} (h : putC r b i g r') (hl : b + i < r.length) {v : Int32} (hv : v = g i) : putC r b (i + 1) g (r'.set (b + i) v) := by
  refine ⟨by rw [List.length_set]; exact h.1, fun j => ?_⟩
  rw [getD_set, h.2 j, h.1]
  by_cases c : j = b + i
  · subst c
    rw [if_pos ⟨rfl, hl⟩, if_pos (by omega), hv, show b + i - b = i by omega]
  · rw [if_neg (fun z => c z.1)]
    by_cases c2 : b ≤ j ∧ j < b + i
    · rw [if_pos c2, if_pos (by omega)]
    · rw [if_neg c2, if_neg (by omega)]
section R23
variable {l : Launch} {w : WD} {d : Nat} {h h0 hz : AH} {Q : Option AV → AH → Prop} {S : SG} {pos k : Nat} {c : CLS}
theorem r_program_copy {p : Nat} {cs : List CLS} (hp : p < 12) (h8 : cs.length ≤ 8) (hP : PH cs h) (q : ∀ r7 r8 r9, putC (aI h 77) (8 * p) cs.length (fun k => (gC cs k).1) r7 → putC (aI h 78) (8 * p) cs.length (fun k => (gC cs k).2.1) r8 → putC (aI h 79) (8 * p) cs.length (fun k => (gC cs k).2.2) r9 → Q (some (vi (nI cs.length))) (tI (tI (tI h 77 r7) 78 r8) 79 r9)) : ∀ n i r7 r8 r9, i + n = cs.length → putC (aI h 77) (8 * p) i (fun k => (gC cs k).1) r7 → putC (aI h 78) (8 * p) i (fun k => (gC cs k).2.1) r8 → putC (aI h 79) (8 * p) i (fun k => (gC cs k).2.2) r9 →
    Ex l w true mX9_program d Q 128 [some (vr 62), some (vi (nI p)), some (vi (nI cs.length)), some (vi (nI i))] [] (tI (tI (tI h 77 r7) 78 r8) 79 r9) 0 0 := by
  intro n
  induction n with
  | zero =>
    intro i r7 r8 r9 hi y7 y8 y9
    have : i = cs.length := by omega
    subst this
    refine go ok_X9_program ?_
    refine asAnd ?_
    rw [nI_leI (by omega) (by omega)]
    refine And.intro (fun c => ?_) (fun c => ?_)
    · refine go ok_X9_program ?_
      exact q _ _ _ y7 y8 y9
    · omega
  | succ n ih =>
    intro i r7 r8 r9 hi y7 y8 y9
    have ei : (nI i).toNatClampNeg = i := nI_clamp (by omega)
    have ep : (nI (8 * p + i)).toNatClampNeg = 8 * p + i := nI_clamp (by omega)
    have hpi := hP i (by omega)
    refine Ex.lay (fun hy => ?_)
    have l7 : (aI h 77).length = 96 := y7.1.symm.trans (yn77 hy)
    have l8 : (aI h 78).length = 96 := y8.1.symm.trans (yn78 hy)
    have l9 : (aI h 79).length = 96 := y9.1.symm.trans (yn79 hy)
    have hh := ih (i + 1) _ _ _ (by omega) (y7.s (by omega) rfl) (y8.s (by omega) rfl) (y9.s (by omega) rfl)
    rw [← tI_abc (v := r7) (w := r8) (u := r9) (by decide) (by decide) (by decide), ← nI_1] at hh
    refine go ok_X9_program ?_
    refine asAnd ?_
    rw [nI_leI (by omega) (by omega)]
    refine And.intro (fun c => ?_) (fun c => ?_)
    · omega
    · refine go ok_X9_program ?_
      refine And.intro (ix80 hy rfl (by omega)) ?_
      refine asAnd ?_
      rw [show (aI (tI (tI (tI h 77 r7) 78 r8) 79 r9) 80).getD (nI i).toNatClampNeg 0 = (gC cs i).1 by rw [ei]; exact hpi.1]
      refine And.intro (jx77 hy (k := 8 * p + i) (e8 p i) (by omega)) ?_
      refine asAnd ?_
      refine And.intro (ix81 hy.ti rfl (by omega)) ?_
      refine asAnd ?_
      rw [e8, ep]
      rw [show (aI (tI (tI (tI (tI h 77 r7) 78 r8) 79 r9) 77 ((aI (tI (tI (tI h 77 r7) 78 r8) 79 r9) 77).set (8 * p + i) (gC cs i).1)) 81).getD (nI i).toNatClampNeg 0 = (gC cs i).2.1 by rw [ei]; exact hpi.2.1]
      refine And.intro (jx78 hy.ti (k := 8 * p + i) rfl (by omega)) ?_
      refine asAnd ?_
      refine And.intro (ix82 hy.ti.ti rfl (by omega)) ?_
      refine asAnd ?_
      refine And.intro (jx79 hy.ti.ti (k := 8 * p + i) (e8 p i) (by omega)) ?_
      rw [e8, ep, ei]
      rw [← hpi.2.2] at hh
      exact hh
theorem r_program_loop {p : Nat} (hv : Inv S) (q1 : ∀ h' kk pl (x : Int32), pProgF (gTx S) ((gTx S).length + 1) [] 0 = .inl (kk, pl) → ftT S h0 kk pl h' → Ex l w true mX9_program (d + 4) Q 99 [some (vr 62), some (vi (nI p)), some (vi x), none] [] h' 0 0) (q2 : ∀ h' j j' cs, pProgF (gTx S) ((gTx S).length + 1) [] 0 = .inr (j, cs) → okT S h0 j' h' → PH cs h' → cs.length ≤ 8 → Ex l w true mX9_program (d + 4) Q 99 [some (vr 62), some (vi (nI p)), some (vi (nI cs.length)), none] [] h' 0 0) :
    ∀ f cs i h, okT S h0 i h → PH cs h → cs.length ≤ 8 → (gTx S).length + 1 - i ≤ f → pProgF (gTx S) f cs i = pProgF (gTx S) ((gTx S).length + 1) [] 0 → Ex l w true mX9_program (d + 4) Q 31 [some (vr 62), some (vi (nI p)), some (vi (nI cs.length)), none] [] h 0 0 := by
  have kF : ∀ h' kk pl (x : Int32), pProgF (gTx S) ((gTx S).length + 1) [] 0 = .inl (kk, pl) → ftT S h0 kk pl h' → Ex l w true mX9_program (d + 4) Q 31 [some (vr 62), some (vi (nI p)), some (vi x), none] [] h' 0 0 := by
    intro h' kk pl x e hft
    refine go ok_X9_program ?_
    refine And.intro (fun c3 => ?_) (fun c3 => absurd c3 hft.ne)
    exact q1 _ _ _ _ e hft
  intro f
  induction f with
  | zero =>
    intro cs i h ht hP h8 hm e
    have := ht.2.2.2.2
    omega
  | succ f ih =>
    intro cs i h ht hP h8 hm e
    have hle := skp_le ht.2.2.2.2
    have hge := skp_ge (gTx S) i
    have ht' : okT S h0 (skp (gTx S) i) (sI h 659 62 (nI (skp (gTx S) i))) := ht.ot ((OT.rf h).s (by decide)) rfl rfl rfl hle
    have hP' : PH cs (sI h 659 62 (nI (skp (gTx S) i))) := hP
    rw [pProgF] at e
    refine go ok_X9_program ?_
    refine asAnd ?_
    rw [ht.2.2.2.1]
    refine And.intro (fun c => absurd c (by decide)) (fun c => ?_)
    refine go ok_X9_program ?_
    refine Cal.z (r_peek ht.m6 ht.2.2.1 ht.2.2.2.2 ?_)
    by_cases c : skp (gTx S) i < (gTx S).length
    · rw [if_pos c] at e
      have hb := (hv.2.2.2.2.2.2.1 _ c).1
      rw [tAt_in c]
      refine go ok_X9_program ?_
      refine And.intro (fun c2 => absurd hb (by simpa using c2)) (fun c2 => ?_)
      refine go ok_X9_program ?_
      refine Cal.z (r_takeWord ht' (fun h2 ht2 ho2 b2 l2 => ?_))
      have hP2 : PH cs h2 := fun k hk => by rw [ho2.2.2.2.1]; exact hP' k hk
      rw [skp_skp] at ht2 b2 l2
      refine go ok_X9_program ?_
      refine Cal.z (r_isClause ht2.m6 b2 l2 hle ?_)
      by_cases c3 : isCls (gTx S) (skp (gTx S) i) = true
      · rw [if_pos c3] at e
        rw [c3]
        refine go ok_X9_program ?_
        refine Cal.z (r_want1 ht2.2.2.2.1 ?_)
        refine go ok_X9_program ?_
        refine And.intro (fun c4 => absurd c4 (by decide)) (fun c4 => ?_)
        refine go ok_X9_program ?_
        by_cases c5 : cs.length < 8
        · rw [if_pos c5] at e
          refine asAnd ?_
          refine And.intro (fun c6 => ?_) (fun c6 => ?_)
          · replace c6 : nI 8 ≤ nI (cs.length) := c6; rw [nI_leI (by omega) (by omega)] at c6
            omega
          · refine go ok_X9_program ?_
            refine Cal.z (r_want1 ht2.2.2.2.1 ?_)
            refine go ok_X9_program ?_
            refine And.intro (fun c7 => absurd c7 (by decide)) (fun c7 => ?_)
            refine go ok_X9_program ?_
            refine Cal.z (r_readClause ht2 c5 b2 l2 hle (fun h3 kk pl e3 hft => ?_) (fun h3 j c e3 ht3 hpx hpe => ?_))
            · rw [e3] at e
              refine go ok_X9_program ?_
              exact kF _ _ _ _ e.symm hft
            · have hlt := (pClsB_ok e3 hle).1
              rw [e3] at e
              have hh := ih (cs ++ [c]) j h3 ht3 (hP2.snoc hpx hpe) (by rw [List.length_append, List.length_singleton]; omega) (by omega) e
              rw [List.length_append, List.length_singleton, ← nI_1] at hh
              refine go ok_X9_program ?_
              exact hh
        · rw [if_neg c5] at e
          refine asAnd ?_
          refine And.intro (fun c6 => ?_) (fun c6 => ?_)
          · refine go ok_X9_program ?_
            refine Cal.z (r_want0 ht2.2.2.2.1 (by decide) ?_)
            have hf3 : ftT S h0 5 (nI (skp (gTx S) i)) (sI (sI h2 660 62 5) 661 62 (hI h2 662 62)) := ht2.fb (((OW.rf h2).s (by decide)).s (by decide)) rfl b2 (by decide)
            refine go ok_X9_program ?_
            refine And.intro (fun c7 => ?_) (fun c7 => absurd c7 (by decide))
            exact kF _ _ _ _ e.symm hf3
          · replace c6 : ¬ nI 8 ≤ nI (cs.length) := c6; rw [nI_leI (by omega) (by omega)] at c6
            omega
      · rw [if_neg c3] at e
        rw [show isCls (gTx S) (skp (gTx S) i) = false by simpa using c3]
        refine go ok_X9_program ?_
        refine Cal.z (r_want0 ht2.2.2.2.1 (by decide) ?_)
        have hf3 : ftT S h0 1 (nI (skp (gTx S) i)) (sI (sI h2 660 62 1) 661 62 (hI h2 662 62)) := ht2.fb (((OW.rf h2).s (by decide)).s (by decide)) rfl b2 (by decide)
        refine go ok_X9_program ?_
        refine And.intro (fun c7 => ?_) (fun c7 => absurd c7 (by decide))
        exact kF _ _ _ _ e.symm hf3
    · rw [if_neg c] at e
      rw [tAt_out (by omega)]
      refine go ok_X9_program ?_
      refine And.intro (fun c2 => ?_) (fun c2 => absurd c2 (by decide))
      exact q2 _ _ _ _ e.symm ht' hP' h8
theorem prD_set {pr : List (List CLS)} {p i : Nat} {cs : List CLS} (hp : p < pr.length) : prD (pr.set p cs) i = if i = p then cs else prD pr i := by
  unfold prD
  rw [getD_set]
  by_cases c : i = p
  · rw [if_pos ⟨c, hp⟩, if_pos c]
  · rw [if_neg (fun z => c z.1), if_neg c]
theorem r_program (hM : RM S h) (hv : Inv S) {x : Int32} (q : ∀ h', RM (programF S x).2 h' → OM h h' → Q (some (vi (programF S x).1)) h') : Con l w true (d + 5) HX9_program [vr 62, vi x] h 0 0 Q := by
  have h12 := hM.m2.2.1
  have hM0 : RM (sFl S (gFl S)) h := hM
  refine Con.of ok_X9_program (nones := [none, none]) rfl (by simp) ?_
  refine go ok_X9_program ?_
  refine Cal.z (k_noPage hM.m2 (fun e => ?_) (fun p hp ep e => ?_))
  · rw [programF, e] at q
    refine go ok_X9_program ?_
    refine And.intro (fun c => absurd c (by decide)) (fun c => ?_)
    refine go ok_X9_program ?_
    exact q _ hM (OM.rf h)
  · subst ep
    rw [programF, e] at q
    dsimp only at q
    refine go ok_X9_program ?_
    refine And.intro (fun c => ?_) (fun c => absurd c (by decide))
    refine go ok_X9_program ?_
    refine asAnd ?_
    rw [hM.m6.1]
    refine And.intro (fun c2 => ?_) (fun c2 => ?_)
    · rw [if_pos c2] at q
      refine go ok_X9_program ?_
      refine Cal.z (r_startText hM0 (OM.rf h) (fun h1 ht1 => ?_))
      refine go ok_X9_program ?_
      refine r_program_loop (h0 := h) (d := d + 1) hv (fun h3 k pl x e hft => ?_) (fun h3 j j' cs e ht3 hP3 h8 => ?_) _ [] 0 h1 ht1 (fun i hi => absurd hi (Nat.not_lt_zero _)) (Nat.zero_le _) (Nat.le_refl _) rfl
      · rw [e] at q
        dsimp only at q
        refine go ok_X9_program ?_
        refine And.intro (fun c => absurd hft.gt (by replace c : hI h3 660 62 ≤ 0 := c; simpa using c)) (fun c => ?_)
        refine go ok_X9_program ?_
        refine Qv (q _ ?_ ?_) ?_
        · exact ⟨hft.1.1, hft.1.m2, hft.1.m3, hft.1.hs, hft.1.m5, ⟨rfl, Nat.zero_le _, fun i hi => absurd hi (Nat.not_lt_zero _)⟩, hft.1.fl, hft.1.m8, hft.1.m9⟩
        · exact hft.2.1.s (by decide)
        · show -10 - k = -10 - hI h3 660 62
          rw [hft.2.2.1]
      · rw [e] at q
        dsimp only at q
        have hM3 := ht3.1
        refine Ex.lay (fun hy => ?_)
        refine go ok_X9_program ?_
        refine asAnd ?_
        rw [show hI (sI h3 658 62 0) 660 62 = 0 from ht3.2.2.2.1]
        refine And.intro (fun c => ?_) (fun c => absurd c (by decide))
        refine go ok_X9_program ?_
        refine And.intro (jx76 (Lay.si hy) (k := p) rfl (by omega)) ?_
        rw [nI_clamp (by omega)]
        have hP4 : PH cs (tI (sI h3 658 62 0) 76 ((aI (sI h3 658 62 0) 76).set p (nI cs.length))) := hP3
        have hh := r_program_copy (l := l) (w := w) (d := d + 5) (Q := Q) (h := tI (sI h3 658 62 0) 76 ((aI (sI h3 658 62 0) 76).set p (nI cs.length))) (p := p) (by omega) h8 hP4 (fun r7 r8 r9 y7 y8 y9 => ?_) cs.length 0 _ _ _ (by omega) (putC.rf _ _ _) (putC.rf _ _ _) (putC.rf _ _ _)
        · rw [show ∀ H : AH, tI (tI (tI H 77 (aI H 77)) 78 (aI H 78)) 79 (aI H 79) = H from fun H => by rw [tI_self, tI_self, tI_self]] at hh
          exact hh
        · refine q _ ?_ ?_
          · refine ⟨hM3.1, hM3.m2, hM3.m3, hM3.hs, hM3.m5, ⟨rfl, Nat.zero_le _, fun i hi => absurd hi (Nat.not_lt_zero _)⟩, hM3.fl, ?_, hM3.m9⟩
            intro i hi
            show (prD ((gPr S).set p cs) i).length ≤ 8 ∧ ((aI h3 76).set p (nI cs.length)).getD i 0 = nI (prD ((gPr S).set p cs) i).length ∧ ∀ k, k < (prD ((gPr S).set p cs) i).length → r7.getD (8 * i + k) 0 = ((prD ((gPr S).set p cs) i).getD k (0, 0, 0)).1 ∧ r8.getD (8 * i + k) 0 = ((prD ((gPr S).set p cs) i).getD k (0, 0, 0)).2.1 ∧ r9.getD (8 * i + k) 0 = ((prD ((gPr S).set p cs) i).getD k (0, 0, 0)).2.2
            have hpl : p < (gPr S).length := by rw [hv.2.2.2.2.2.2.2.1.1]; omega
            rw [prD_set hpl, getD_set, yn76 hy]
            by_cases c : i = p
            · subst c
              rw [if_pos rfl, if_pos ⟨rfl, by omega⟩]
              refine ⟨h8, rfl, fun k hk => ?_⟩
              rw [y7.2, y8.2, y9.2, if_pos (by omega), if_pos (by omega), if_pos (by omega), show 8 * i + k - 8 * i = k by omega]
              exact ⟨rfl, rfl, rfl⟩
            · obtain ⟨m1, m2, m3⟩ := hM3.m8 i hi
              rw [if_neg c, if_neg (fun z => c z.1)]
              refine ⟨m1, m2, fun k hk => ?_⟩
              replace m1 : (prD (gPr S) i).length ≤ 8 := m1
              rw [y7.2, y8.2, y9.2, if_neg (by omega), if_neg (by omega), if_neg (by omega)]
              exact m3 k hk
          · exact ((((ht3.2.1.s (by decide)).t (by decide)).t (by decide)).t (by decide)).t (by decide)
    · rw [if_neg c2] at q
      refine go ok_X9_program ?_
      exact q _ hM (OM.rf h)
end R23

