/-! ===== the reference: read, feed ===== -/
def nvOK (L : List Int32) : Prop := L.length = 6 ∧ ∀ i, i < 6 → L.getD i 0 = 0 ∨ L.getD i 0 = 1
theorem nvOK.set {L : List Int32} {k : Nat} (h : nvOK L) : nvOK (L.set k 1) := by
  refine ⟨by rw [List.length_set]; exact h.1, fun i hi => ?_⟩
  rw [getD_set]
  split
  · exact Or.inr rfl
  · exact h.2 i hi
theorem tI_ab {h : AH} {a b : Nat} {v v2 w w2 : List Int32} (hab : ¬ a = b) : tI (tI (tI (tI h a v) b w) a v2) b w2 = tI (tI h a v2) b w2 := by
  unfold tI
  simp only [hC, hI, hL, hR, aI, aL, aR, hZ]
  congr 5
  funext x
  unfold up1
  by_cases c : x = b
  · simp [c]
  · by_cases c2 : x = a
    · simp [c, c2]
    · simp [c, c2]
theorem ext_getD {L M : List Int32} {n : Nat} (h1 : L.length = n) (h2 : M.length = n) (e : ∀ j, j < n → L.getD j 0 = M.getD j 0) : L = M := by
  apply List.ext_getElem (h1.trans h2.symm)
  intro i hi hj
  have := e i (by omega)
  rw [List.getD_eq_getElem?_getD, List.getD_eq_getElem?_getD, List.getElem?_eq_getElem hi, List.getElem?_eq_getElem hj] at this
  exact this
section R21
variable {l : Launch} {w : WD} {d : Nat} {h h0 : AH} {Q : Option AV → AH → Prop} {S : SG} {pos : Nat} {R : NR} {tx : List Int32}
theorem pBody_inv {i j : Nat} {R' : NR} (e : pBody tx R i = .inr (j, R')) (hi : i ≤ tx.length) (hn : nvOK R.1.1) : i ≤ j ∧ nvOK R'.1.1 := by
  have g0 := skp_ge tx i
  have g1 : skp tx i ≤ run isLt tx (skp tx i) := run_ge rfl _
  have g2 : run isLt tx (skp tx i) ≤ tx.length := run_le rfl (skp_le hi)
  unfold pBody at e
  split at e
  · unfold pNever pBd at e
    cases e1 : pNum tx 0 5 (run isLt tx (skp tx i)) with
    | inl x => rw [e1] at e; cases e
    | inr x =>
      obtain ⟨j1, v⟩ := x
      rw [e1] at e
      dsimp only at e
      obtain ⟨-, -, f3, f4⟩ := pNum_ok e1 g2
      split at e
      · cases e
      · injection e with e; injection e with a b; subst a b
        exact ⟨by omega, hn.set⟩
  · split at e
    · unfold pLet pBd at e
      cases e1 : pNum tx 0 5 (run isLt tx (skp tx i)) with
      | inl x => rw [e1] at e; cases e
      | inr x =>
        obtain ⟨j1, v⟩ := x
        rw [e1] at e
        dsimp only at e
        obtain ⟨-, -, f3, f4⟩ := pNum_ok e1 g2
        split at e
        · cases e
        · unfold pWord at e
          have g4 := skp_ge tx j1
          have g5 : skp tx j1 ≤ run isLt tx (skp tx j1) := run_ge rfl _
          have g6 : run isLt tx (skp tx j1) ≤ tx.length := run_le rfl (skp_le f4)
          split at e
          · cases e
          · rename_i j2 u e3
            split at e3
            · injection e3 with e3; injection e3 with a b; subst a
              cases e2 : pNum tx 1 99 (run isLt tx (skp tx j1)) with
              | inl x => rw [e2] at e; cases e
              | inr x =>
                obtain ⟨j3, v3⟩ := x
                rw [e2] at e
                dsimp only at e
                obtain ⟨-, -, k3, k4⟩ := pNum_ok e2 g6
                injection e with e; injection e with a b; subst a b
                exact ⟨by omega, hn⟩
            · cases e3
    · split at e
      · unfold pNight pBd at e
        split at e
        · cases e
        · cases e1 : pNum tx 1 12 (run isLt tx (skp tx i)) with
          | inl x => rw [e1] at e; cases e
          | inr x =>
            obtain ⟨j1, v⟩ := x
            rw [e1] at e
            dsimp only at e
            obtain ⟨-, -, f3, f4⟩ := pNum_ok e1 g2
            injection e with e; injection e with a b; subst a b
            exact ⟨by omega, hn⟩
      · split at e
        · unfold pPat pBd at e
          split at e
          · cases e
          · cases e1 : pNum tx 0 999 (run isLt tx (skp tx i)) with
            | inl x => rw [e1] at e; cases e
            | inr x =>
              obtain ⟨j1, v⟩ := x
              rw [e1] at e
              dsimp only at e
              obtain ⟨-, -, f3, f4⟩ := pNum_ok e1 g2
              injection e with e; injection e with a b; subst a b
              exact ⟨by omega, hn⟩
        · split at e
          · unfold pClo pBd at e
            split at e
            · cases e
            · cases e1 : pCloF tx (tx.length + 1) R.1.2.2.2.2 (run isLt tx (skp tx i)) with
              | inl x => rw [e1] at e; cases e
              | inr x =>
                obtain ⟨j1, v⟩ := x
                rw [e1] at e
                dsimp only at e
                obtain ⟨f3, f4⟩ := pCloF_ok _ _ _ _ _ e1 g2
                injection e with e; injection e with a b; subst a b
                exact ⟨by omega, hn⟩
          · cases e
theorem pSign_ok {c : Int32} {i j : Nat} {u : Unit} (e : pSign tx c i = .inr (j, u)) : i < j := by
  have := skp_ge tx i
  unfold pSign at e
  split at e
  · injection e with e; injection e with a b; omega
  · cases e
theorem pRight_inv {i j : Nat} {R' : NR} (e : pRight tx R i = .inr (j, R')) (hi : i ≤ tx.length) (hn : nvOK R.1.1) : i < j ∧ nvOK R'.1.1 := by
  unfold pRight pBd at e
  cases e1 : pBody tx R i with
  | inl x => rw [e1] at e; cases e
  | inr x =>
    obtain ⟨j1, R1⟩ := x
    rw [e1] at e
    dsimp only at e
    obtain ⟨a1, a2⟩ := pBody_inv e1 hi hn
    cases e2 : pSign tx 59 j1 with
    | inl x => rw [e2] at e; cases e
    | inr x =>
      obtain ⟨j2, u⟩ := x
      rw [e2] at e
      dsimp only at e
      have := pSign_ok e2
      injection e with e; injection e with a b; subst a b
      exact ⟨by omega, a2⟩
theorem r_startText {p : Int32} (hM : RM (sFl S p) h) (ho : OM h0 h) (q : ∀ h', okT S h0 0 h' → Q none h') : Con l w true d HX9_startText [vr 62] h 0 0 Q := by
  refine Con.of ok_X9_startText (nones := []) rfl (by simp) ?_
  refine go ok_X9_startText ?_
  refine q _ ⟨?_, ?_, rfl, rfl, Nat.zero_le _⟩
  · exact hM.ot ((((OT.rf h).s (by decide)).s (by decide)).s (by decide)) rfl
  · exact ho.tr ((((OT.rf h).s (by decide)).s (by decide)).s (by decide)).om
theorem r_beginRights (ht : okT S h0 pos h) (q : ∀ h', okT S h0 pos h' → NRH nr0 h' → Q none h') : Con l w true d HX9_beginRights [vr 62] h 0 0 Q := by
  have lp : ∀ n i r s, i + n = 6 → r.length = 6 → s.length = 6 → (∀ j, j < i → r.getD j 0 = 0) → (∀ j, j < i → s.getD j 0 = 1) → Ex l w true mX9_beginRights d Q 2 [some (vr 62), some (vi (nI i))] [] (tI (tI h 74 r) 75 s) 0 0 := by
    intro n
    induction n with
    | zero =>
      intro i r s hi hr hs er es
      have : i = 6 := by omega
      subst this
      have e1 := list6 hr er
      have e2 := list6 hs es
      refine go ok_X9_beginRights ?_
      refine And.intro (fun c => ?_) (fun c => absurd c (by decide))
      refine go ok_X9_beginRights ?_
      refine q _ (ht.ob (((((((OW.rf h).t (by decide)).t (by decide)).s (by decide)).s (by decide)).sl).s (by decide)) ht.2.2.1 rfl rfl ht.2.2.2.2) ?_
      refine ⟨e1, e2, rfl, rfl, rfl, fun k _ => ?_⟩
      show bt 0 k = false
      exact b_0 k
    | succ n ih =>
      intro i r s hi hr hs er es
      refine Ex.lay (fun hy => ?_)
      refine go ok_X9_beginRights ?_
      refine And.intro (fun c => ?_) (fun c => ?_)
      · replace c : nI 6 ≤ nI i := c; rw [nI_leI (by omega) (by omega)] at c
        omega
      · refine go ok_X9_beginRights ?_
        refine And.intro (jx74 hy (k := i) rfl (by omega)) (And.intro (Or.inl rfl) ?_)
        refine asAnd ?_
        refine And.intro (jx75 hy.ti (k := i) rfl (by omega)) ?_
        have hh := ih (i + 1) (r.set i 0) (s.set i 1) (by omega) (by rw [List.length_set]; exact hr) (by rw [List.length_set]; exact hs) (fun j hj => by
            rw [getD_set]
            split
            · rfl
            · rename_i z; exact er j (by omega)) (fun j hj => by
            rw [getD_set]
            split
            · rfl
            · rename_i z; exact es j (by omega))
        rw [← tI_ab (v := r) (w := s) (by decide), ← nI_1] at hh
        rw [nI_clamp (by omega)]
        exact hh
  refine Con.of ok_X9_beginRights (nones := [none]) rfl (by simp) ?_
  refine Ex.lay (fun hy => ?_)
  refine go ok_X9_beginRights ?_
  have hh := lp 6 0 (aI h 74) (aI h 75) (by omega) (yn74 hy) (yn75 hy) (fun j hj => absurd hj (Nat.not_lt_zero _)) (fun j hj => absurd hj (Nat.not_lt_zero _))
  rw [tI_self, tI_self] at hh
  exact hh
theorem r_useRights {p : Int32} (hM : RM (sFl S p) h) (ho : OM h0 h) (hN : NRH R h) (hn : nvOK R.1.1) (q : ∀ h', RM (sRt (sFl S p) R.1) h' → OM h0 h' → Q none h') : Con l w true d HX9_useRights [vr 62] h 0 0 Q := by
  have lp : ∀ n i r s, i + n = 6 → r.length = 6 → s.length = 6 → (∀ j, j < i → r.getD j 0 = R.1.1.getD j 0) → (∀ j, j < i → s.getD j 0 = R.1.2.1.getD j 0) → Ex l w true mX9_useRights d Q 2 [some (vr 62), some (vi (nI i))] [] (tI (tI h 70 r) 71 s) 0 0 := by
    intro n
    induction n with
    | zero =>
      intro i r s hi hr hs er es
      have : i = 6 := by omega
      subst this
      refine Ex.lay (fun hy => ?_)
      have hl : R.1.2.1.length = 6 := by
        have := yn75 hy
        rw [show aI (tI (tI h 70 r) 71 s) 75 = R.1.2.1 from hN.2.1] at this
        exact this
      have e1 := ext_getD hr hn.1 er
      have e2 := ext_getD hs hl es
      subst e1 e2
      refine go ok_X9_useRights ?_
      refine And.intro (fun c => ?_) (fun c => absurd c (by decide))
      refine go ok_X9_useRights ?_
      refine q _ ?_ ?_
      · refine ⟨hM.1, hM.m2, hM.m3, hM.hs, ⟨rfl, rfl, ?_, ?_, ?_⟩, hM.m6, hM.fl, hM.m8, hM.m9⟩
        · exact hN.2.2.1
        · exact hN.2.2.2.1
        · exact hN.2.2.2.2.1
      · exact ((((ho.t (by decide)).t (by decide)).s (by decide)).s (by decide)).sl (by decide)
    | succ n ih =>
      intro i r s hi hr hs er es
      have ei : (nI i).toNatClampNeg = i := nI_clamp (by omega)
      refine Ex.lay (fun hy => ?_)
      refine go ok_X9_useRights ?_
      refine And.intro (fun c => ?_) (fun c => ?_)
      · replace c : nI 6 ≤ nI i := c; rw [nI_leI (by omega) (by omega)] at c
        omega
      · refine go ok_X9_useRights ?_
        refine And.intro (ix74 hy (k := i) rfl (by omega)) ?_
        refine asAnd ?_
        rw [show aI (tI (tI h 70 r) 71 s) 74 = R.1.1 from hN.1, ei]
        refine And.intro (jx70 hy (k := i) rfl (by omega)) (And.intro (hn.2 i (by omega)) ?_)
        refine asAnd ?_
        refine And.intro (ix75 hy.ti (k := i) rfl (by omega)) ?_
        refine asAnd ?_
        refine And.intro (jx71 hy.ti (k := i) rfl (by omega)) ?_
        have hh := ih (i + 1) (r.set i (R.1.1.getD i 0)) (s.set i (R.1.2.1.getD i 0)) (by omega) (by rw [List.length_set]; exact hr) (by rw [List.length_set]; exact hs) (fun j hj => by
            rw [getD_set]
            split
            · rename_i z; rw [z.1]
            · rename_i z; exact er j (by omega)) (fun j hj => by
            rw [getD_set]
            split
            · rename_i z; rw [z.1]
            · rename_i z; exact es j (by omega))
        rw [← tI_ab (v := r) (w := s) (by decide), ← nI_1] at hh
        rw [ei, show aI (tI (tI (tI h 70 r) 71 s) 70 ((aI (tI (tI h 70 r) 71 s) 70).set i (R.1.1.getD i 0))) 75 = R.1.2.1 from hN.2.1]
        exact hh
  refine Con.of ok_X9_useRights (nones := [none]) rfl (by simp) ?_
  refine Ex.lay (fun hy => ?_)
  refine go ok_X9_useRights ?_
  have hh := lp 6 0 (aI h 70) (aI h 71) (by omega) (yn70 hy) (yn71 hy) (fun j hj => absurd hj (Nat.not_lt_zero _)) (fun j hj => absurd hj (Nat.not_lt_zero _))
  rw [tI_self, tI_self] at hh
  exact hh
theorem r_read_loop (hv : Inv S) (q1 : ∀ h' k p (x : Int32), pReadF (gTx S) ((gTx S).length + 1) 0 nr0 0 = .inl (k, p) → ftT S h0 k p h' → Ex l w true mX9_read (d + 4) Q 34 [some (vr 62), some (vi x)] [] h' 0 0) (q2 : ∀ h' j j' n R', pReadF (gTx S) ((gTx S).length + 1) 0 nr0 0 = .inr (j, n, R') → okT S h0 j' h' → NRH R' h' → nvOK R'.1.1 → Ex l w true mX9_read (d + 4) Q 34 [some (vr 62), some (vi (nI n))] [] h' 0 0) :
    ∀ f n R i h, okT S h0 i h → NRH R h → nvOK R.1.1 → (gTx S).length + 1 - i ≤ f → pReadF (gTx S) f n R i = pReadF (gTx S) ((gTx S).length + 1) 0 nr0 0 → Ex l w true mX9_read (d + 4) Q 10 [some (vr 62), some (vi (nI n))] [] h 0 0 := by
  intro f
  induction f with
  | zero =>
    intro n R i h ht hN hn hm e
    have := ht.2.2.2.2
    omega
  | succ f ih =>
    intro n R i h ht hN hn hm e
    have hle := skp_le ht.2.2.2.2
    have hge := skp_ge (gTx S) i
    have ht' : okT S h0 (skp (gTx S) i) (sI h 659 62 (nI (skp (gTx S) i))) := ht.ot ((OT.rf h).s (by decide)) rfl rfl rfl hle
    have hN' : NRH R (sI h 659 62 (nI (skp (gTx S) i))) := hN
    rw [pReadF] at e
    refine go ok_X9_read ?_
    refine asAnd ?_
    rw [ht.2.2.2.1]
    refine And.intro (fun c => absurd c (by decide)) (fun c => ?_)
    refine go ok_X9_read ?_
    refine Cal.z (r_peek ht.m6 ht.2.2.1 ht.2.2.2.2 ?_)
    by_cases c : skp (gTx S) i < (gTx S).length
    · rw [if_pos c] at e
      have hb := (hv.2.2.2.2.2.2.1 _ c).1
      rw [tAt_in c]
      refine go ok_X9_read ?_
      refine And.intro (fun c2 => absurd hb (by simpa using c2)) (fun c2 => ?_)
      refine go ok_X9_read ?_
      have es : pRight (gTx S) R (skp (gTx S) i) = pRight (gTx S) R i := by unfold pRight pBody; rw [skp_skp]
      refine Cal.z (r_readRight ht' hN' (fun h2 k p e2 hft => ?_) (fun h2 j R' e2 ht2 hN2 => ?_))
      · rw [es] at e2
        rw [e2] at e
        have hh := fun x => q1 h2 k p x e.symm hft
        refine go ok_X9_read ?_
        refine go ok_X9_read ?_
        refine And.intro (fun c3 => ?_) (fun c3 => absurd c3 hft.ne)
        exact hh _
      · have hinv := pRight_inv e2 hle hn
        rw [es] at e2
        rw [e2] at e
        have hh := ih (n + 1) R' j h2 ht2 hN2 hinv.2 (by omega) e
        rw [← nI_1] at hh
        refine go ok_X9_read ?_
        exact hh
    · rw [if_neg c] at e
      rw [tAt_out (by omega)]
      refine go ok_X9_read ?_
      refine And.intro (fun c2 => ?_) (fun c2 => absurd c2 (by decide))
      exact q2 _ _ _ _ _ e.symm ht' hN' hn
theorem r_read (hM : RM S h) (hv : Inv S) (q : ∀ h', RM (readF S).2 h' → OM h h' → Q (some (vi (readF S).1)) h') : Con l w true (d + 4) HX9_read [vr 62] h 0 0 Q := by
  have hM0 : RM (sFl S (gFl S)) h := hM
  refine Con.of ok_X9_read (nones := [none]) rfl (by simp) ?_
  refine go ok_X9_read ?_
  refine Cal.z (r_startText hM0 (OM.rf h) (fun h1 ht1 => ?_))
  refine go ok_X9_read ?_
  refine Cal.z (r_beginRights ht1 (fun h2 ht2 hN2 => ?_))
  refine go ok_X9_read ?_
  refine r_read_loop (h0 := h) hv (fun h3 k p x e hft => ?_) (fun h3 j j' n R' e ht3 hN3 hn => ?_) _ 0 nr0 0 h2 ht2 hN2 ⟨rfl, by decide⟩ (Nat.le_refl _) rfl
  · rw [readF, e] at q
    dsimp only at q
    refine go ok_X9_read ?_
    refine And.intro (fun c => absurd hft.gt (by replace c : hI h3 660 62 ≤ 0 := c; simpa using c)) (fun c => ?_)
    refine go ok_X9_read ?_
    refine Qv (q _ ?_ ?_) ?_
    · exact ⟨hft.1.1, hft.1.m2, hft.1.m3, hft.1.hs, hft.1.m5, ⟨rfl, Nat.zero_le _, fun i hi => absurd hi (Nat.not_lt_zero _)⟩, hft.1.fl, hft.1.m8, hft.1.m9⟩
    · exact hft.2.1.s (by decide)
    · show -10 - k = -10 - hI h3 660 62
      rw [hft.2.2.1]
  · rw [readF, e] at q
    dsimp only at q
    have hM3 : RM (sTx (sFl S (-1)) []) (sI h3 658 62 0) := ⟨ht3.1.1, ht3.1.m2, ht3.1.m3, ht3.1.hs, ht3.1.m5, ⟨rfl, Nat.zero_le _, fun i hi => absurd hi (Nat.not_lt_zero _)⟩, ht3.1.fl, ht3.1.m8, ht3.1.m9⟩
    have hN4 : NRH R' (sI h3 658 62 0) := hN3
    refine go ok_X9_read ?_
    refine asAnd ?_
    rw [show hI (sI h3 658 62 0) 660 62 = 0 from ht3.2.2.2.1]
    refine And.intro (fun c => ?_) (fun c => absurd c (by decide))
    refine go ok_X9_read ?_
    refine Cal.z (r_useRights (S := sTx S []) (p := -1) hM3 (ht3.2.1.s (by decide)) hN4 hn (fun h5 hM5 ho5 => ?_))
    refine go ok_X9_read ?_
    exact q _ hM5 ho5
theorem r_feed_loop {n : Nat} {bytes : Int64} (hM : RM S h) (hn : (gTx S).length + n ≤ 200) {a1 : Int32} (q : ∀ h', RM (sTx S (gTx S ++ fdB bytes n)) h' → OM h h' → Q (some (vi (nI (gTx S ++ fdB bytes n).length))) h') : ∀ (k : Nat) (tx : List Int32) (h' : AH), k ≤ n → tx.length + k = (gTx S).length + n → tx ++ fdB bytes k = gTx S ++ fdB bytes n → RM (sTx S tx) h' → OM h h' →
    Ex l w true mX9_feed d Q 37 [some (vr 62), some (vi a1), some (vl bytes), none, some (vi (nI k - 1))] [] h' 0 0 := by
  intro k
  induction k with
  | zero =>
    intro tx h' hk hl e hM' ho
    rw [fdB, List.append_nil] at e
    subst e
    refine go ok_X9_feed ?_
    refine And.intro (fun c => ?_) (fun c => absurd c (by decide))
    refine go ok_X9_feed ?_
    exact Qv (q _ hM' ho) hM'.m6.1.symm
  | succ k ih =>
    intro tx h' hk hl e hM' ho
    have ek : nI (k + 1) - 1 = nI k := nI_prd (n := k + 1) (by omega)
    rw [ek]
    have m6 := hM'.m6
    have e658 : hI h' 658 62 = nI tx.length := m6.1
    refine Ex.lay (fun hy => ?_)
    have hh := ih (tx ++ [(bytes >>> (((8 : Int32) * nI k).toInt64 &&& 63) &&& 255).toInt32]) (sI (tI h' 73 ((aI h' 73).set tx.length (bytes >>> (((8 : Int32) * nI k).toInt64 &&& 63) &&& 255).toInt32)) 658 62 (nI tx.length + 1)) (by omega) (by rw [List.length_append, List.length_singleton]; omega) (by rw [← e, fdB]; simp) ?_ ((ho.t (by decide)).s (by decide))
    · refine go ok_X9_feed ?_
      refine And.intro (fun c => absurd c (nI_pos (by omega))) (fun c => ?_)
      refine go ok_X9_feed ?_
      refine And.intro (jx73 hy (k := tx.length) m6.1 (by omega)) ?_
      rw [e658, nI_clamp (by omega)]
      rw [← e658, Int32.sub_eq_add_neg] at hh
      exact hh
    · refine ⟨hM'.1, hM'.m2, hM'.m3, hM'.hs, hM'.m5, ⟨?_, ?_, fun i hi => ?_⟩, hM'.fl, hM'.m8, hM'.m9⟩
      · show nI tx.length + 1 = nI (tx ++ [_]).length
        rw [nI_1, List.length_append]; rfl
      · show (tx ++ [_]).length ≤ 200
        rw [List.length_append, List.length_singleton]; omega
      · replace hi : i < (tx ++ [(bytes >>> (((8 : Int32) * nI k).toInt64 &&& 63) &&& 255).toInt32]).length := hi
        rw [List.length_append, List.length_singleton] at hi
        show ((aI h' 73).set tx.length _).getD i 0 = (tx ++ [_]).getD i 0
        rw [getD_set, getD_snoc, yn73 hy]
        by_cases c : i = tx.length
        · rw [if_pos ⟨c, by omega⟩, if_neg (by omega), if_pos c]
        · rw [if_neg (fun z => c z.1), if_pos (by omega)]; exact m6.2.2 i (by show i < tx.length; omega)
theorem r_feed (hM : RM S h) {n : Int32} {bytes : Int64} (q : ∀ h', RM (feedF S n bytes).2 h' → OM h h' → Q (some (vi (feedF S n bytes).1)) h') : Con l w true (d + 1) HX9_feed [vr 62, vi n, vl bytes] h 0 0 Q := by
  have h200 := hM.m6.2.1
  refine Con.of ok_X9_feed (nones := [none]) rfl (by simp) ?_
  refine go ok_X9_feed ?_
  refine Cal.z (k_in (lo := 1) (hi := 8) rfl rfl (rfl) (fun c => ?_) (fun c => ?_))
  · rw [feedF, if_pos c] at q
    obtain ⟨k, hk, rfl⟩ := natOf (n := 8) (by decide) (Int32.le_trans (by decide) c.1) c.2
    refine go ok_X9_feed ?_
    refine And.intro (fun c2 => ?_) (fun c2 => absurd c2 (by decide))
    refine go ok_X9_feed ?_
    refine asAnd ?_
    rw [hM.m6.1]
    refine And.intro (fun c3 => ?_) (fun c3 => ?_)
    · rw [if_pos c3, nI_clamp (by omega)] at q
      replace c3 : nI (gTx S).length + nI k ≤ nI 200 := c3
      rw [nI_add, nI_leI (by omega) (by omega)] at c3
      refine go ok_X9_feed ?_
      exact r_feed_loop hM c3 q k (gTx S) h (Nat.le_refl _) rfl rfl hM (OM.rf h)
    · rw [if_neg c3] at q
      refine go ok_X9_feed ?_
      exact q _ hM (OM.rf h)
  · rw [feedF, if_neg c] at q
    refine go ok_X9_feed ?_
    refine And.intro (fun c2 => absurd c2 (by decide)) (fun c2 => ?_)
    refine go ok_X9_feed ?_
    exact q _ hM (OM.rf h)
end R21

