/-! ===== the class: a clause of a program ===== -/
theorem trapR_l {cs : List CLS} {c : CLS} : ∀ n, n ≤ cs.length → trapR (cs ++ [c]) n = trapR cs n := by
  intro n
  induction n with
  | zero => intro _; rfl
  | succ n ih =>
    intro hn
    rw [trapR, trapR, ih (by omega), gC_l (by omega)]
section C37
variable {l : Launch} {w : WD} {d : Nat} {h h0 H : AH} {Q : Option AV → AH → Prop} {tx : List Int32} {i j q m : Nat} {k p : Int32} {cs : List CLS}
theorem PMc.snoc (hp : PMc cs q h) (hd : PD q h) (h8 : cs.length < 8) {a b c : Int32} (hc : (0 ≤ c ∧ hI H 324 q = hI h 324 q) ∨ (c = -1 ∧ hI H 324 q = 1)) (e1 : hI H 323 q = nI (cs.length + 1)) (e2 : hC H = hC h) (e3 : hR H = hR h) (e4 : aI H = aI (pW h q cs.length a b c)) : PMc (cs ++ [(a, b, c)]) q H := by
  obtain ⟨a1, a2, a3, a4, a5⟩ := hp
  obtain ⟨y1, ⟨y2, y3⟩, ⟨y4, y5⟩, ⟨y6, y7⟩⟩ := a1
  have n01 : ¬ hR h 320 q = hR h 321 q := fun z => absurd (hd.1 0 1 (by decide) (by decide) z) (by decide)
  have n02 : ¬ hR h 320 q = hR h 322 q := fun z => absurd (hd.1 0 2 (by decide) (by decide) z) (by decide)
  have n12 : ¬ hR h 321 q = hR h 322 q := fun z => absurd (hd.1 1 2 (by decide) (by decide) z) (by decide)
  have r0 : aI H (hR h 320 q) = (aI h (hR h 320 q)).set cs.length a := by
    rw [e4]; unfold pW pW1
    rw [aI_tI, if_neg n02, aI_tI, if_neg n01, aI_tI, if_pos rfl]
  have r1 : aI H (hR h 321 q) = (aI h (hR h 321 q)).set cs.length b := by
    rw [e4]; unfold pW pW1
    rw [aI_tI, if_neg n12, aI_tI, if_pos rfl, aI_tI, if_neg (fun z => n01 z.symm)]
  have r2 : aI H (hR h 322 q) = (aI h (hR h 322 q)).set cs.length c := by
    rw [e4]; unfold pW pW1
    rw [aI_tI, if_pos rfl, aI_tI, if_neg (fun z => n12 z.symm), aI_tI, if_neg (fun z => n02 z.symm)]
  have el : (cs ++ [(a, b, c)]).length = cs.length + 1 := by rw [List.length_append]; rfl
  unfold PMc PMs
  rw [e2, e3, r0, r1, r2, el, List.length_set, List.length_set, List.length_set]
  refine ⟨⟨y1, ⟨y2, y3⟩, ⟨y4, y5⟩, ⟨y6, y7⟩⟩, e1, by omega, ?_, fun k hk => ?_⟩
  · rw [trapR, trapR_l _ (Nat.le_refl _), gC_e]
    rcases hc with z | z
    · rw [z.2, a4, decide_eq_false (by show ¬ c < 0; have := z.1; rw [Int32.le_iff_toInt_le] at this; rw [Int32.lt_iff_toInt_lt]; omega), Bool.or_false]
    · rw [z.2, decide_eq_true (by show c < 0; rw [z.1]; decide), Bool.or_true]; rfl
  · rw [getD_set, getD_set, getD_set, y3, y5, y7]
    by_cases c1 : k = cs.length
    · rw [if_pos ⟨c1, h8⟩, if_pos ⟨c1, h8⟩, if_pos ⟨c1, h8⟩, c1, gC_e]
      exact ⟨rfl, rfl, rfl⟩
    · rw [if_neg (fun z => c1 z.1), if_neg (fun z => c1 z.1), if_neg (fun z => c1 z.1), gC_l (by omega)]
      exact a5 k (by omega)
theorem c_putT (hp : PMs q h) (hs : hI h 323 q = nI m) (hm : m < 8) {a b c : Int32} (qq : Q none (tH (pW h q m a b c) i k p)) : Con l w true d HX4_put [vr q, vi a, vi b, vi c] (tH h i k p) 0 0 Q := c_put (H := tH h i k p) hp hs hm qq
def pTB (tx ws : List Int32) (i : Nat) : PR Int32 := pBd (pWord tx ws i) (fun j _ => pNum tx 0 999 j)
theorem pRowB_e (tx : List Int32) (i : Nat) : pRowB tx i = pBd (pNum tx 0 999 i) (fun j v => pBd (pTB tx wBy j) (fun j3 b => pBd (pTB tx wTimes j3) (fun j5 m => .inr (j5, (v, b, m))))) := by
  unfold pRowB pTB
  cases pNum tx 0 999 i with
  | inl x => rfl
  | inr x =>
    obtain ⟨j, v⟩ := x
    simp only [pBd]
    cases pWord tx wBy j with
    | inl x => rfl
    | inr x =>
      obtain ⟨j2, u⟩ := x
      simp only
      cases pNum tx 0 999 j2 with
      | inl x => rfl
      | inr x =>
        obtain ⟨j3, b⟩ := x
        simp only
        cases pWord tx wTimes j3 with
        | inl x => rfl
        | inr x => rfl
theorem pEverB_e (tx : List Int32) (i : Nat) : pEverB tx i = pBd (pNum tx 0 999 i) (fun j v => pBd (pTB tx wBy j) (fun j3 b => .inr (j3, (v, b, -1)))) := by
  unfold pEverB pTB
  cases pNum tx 0 999 i with
  | inl x => rfl
  | inr x =>
    obtain ⟨j, v⟩ := x
    simp only [pBd]
    cases pWord tx wBy j with
    | inl x => rfl
    | inr x => rfl
theorem wAt_two {tx : List Int32} {b : Nat} {u v : List Int32} (h : wAt tx b u = true) (hn : ¬ u.length = v.length) : wAt tx b v = false := by
  have e := wAt_run h
  unfold wAt
  rw [e, decide_eq_false (by omega), Bool.false_and]
theorem pTB_pos {tx ws : List Int32} {i j : Nat} {v : Int32} (e : pTB tx ws i = .inr (j, v)) (hi : i ≤ tx.length) : 0 ≤ v := by
  unfold pTB at e
  cases c : pWord tx ws i with
  | inl x => rw [c] at e; cases e
  | inr x =>
    obtain ⟨a, u⟩ := x
    rw [c] at e
    exact (pNum_ok e (pWord_ok c hi).2).1
/-- what a clause must leave -/
def clQ (tx : List Int32) (q : Nat) (h0 : AH) (cs : List CLS) (b : Nat) (p : Int32) (Q : Option AV → AH → Prop) : Prop :=
  (∀ h' j c, isCls tx b = true → pClsB tx b = .inr (j, c) → PB q h0 h' → hI h' 323 q = nI cs.length → PMc (cs ++ [c]) q (sI h' 323 q (nI (cs.length + 1))) → j ≤ tx.length → Q none (tH h' j 0 p)) ∧
  (∀ h' e pl i2, (isCls tx b = true → pClsB tx b = .inl (e, pl)) → (isCls tx b = false → (e, pl) = (1, nI b)) → ¬ e = 0 → PB q h0 h' → i2 ≤ tx.length → Q none (tH h' i2 e pl))
theorem c_readClauseP (hS : STH h0) (hT : TXc tx h0) (hd : PD q h0) (hp0 : PMs q h0) (b : PB q h0 h) (hp : PMc cs q h) (h8 : cs.length < 8) (hi : i ≤ tx.length) (qq : clQ tx q h0 cs (skp tx i) p Q) : Con l w true (d + 8) HX4_readClause [vr q, vr 36] (tH h i 0 p) 0 0 Q := by
  have hle := skp_le hi
  have hTh := b.txt hd hT
  have hSh := b.st hd hS
  have hbb := skp_skp tx i
  have hdh : PD q h := by unfold PD; rw [b.1.2.1]; exact hd
  have hs := hp.2.1
  have y1 : hC h q = 6 := hp.1.1
  have hms := hp.1
  obtain ⟨q1, q2⟩ := qq
  -- the end: a body that went well, one that didn't
  have m1 : ∀ h' j c L, isCls tx (skp tx i) = true → (∀ j2, pSign tx 59 j = .inr (j2, ()) → pClsB tx (skp tx i) = .inr (j2, c)) → (∀ e, pSign tx 59 j = .inl e → pClsB tx (skp tx i) = .inl e) → PB q h0 h' → hI h' 323 q = nI cs.length → PMc (cs ++ [c]) q (sI h' 323 q (nI (cs.length + 1))) → j ≤ tx.length → Ex l w true mX4_readClause (d + 8) Q 117 (some (vr q) :: some (vr 36) :: L) [] (tH h' j 0 p) 0 0 := by
    intro h' j c L e e1 e2 b' hs' hp' hl
    refine go ok_X4_readClause ?_
    refine Cal.z (c_takeSign (b'.txt hd hT) hl (by decide) (fun j2 _ e3 hl2 => ?_) (fun e3 pl i2 _ e4 he hl2 => ?_) (fun i2 z => absurd rfl z))
    · refine go ok_X4_readClause ?_
      exact q1 h' j2 c e (e1 j2 e3) b' hs' hp' hl2
    · refine go ok_X4_readClause ?_
      exact q2 h' e3 pl i2 (fun _ => e2 _ e4) (fun z => by rw [e] at z; cases z) he b' hl2
  have m2 : ∀ h' e pl i2 L, (isCls tx (skp tx i) = true → pClsB tx (skp tx i) = .inl (e, pl)) → (isCls tx (skp tx i) = false → (e, pl) = (1, nI (skp tx i))) → ¬ e = 0 → PB q h0 h' → i2 ≤ tx.length → Ex l w true mX4_readClause (d + 8) Q 117 (some (vr q) :: some (vr 36) :: L) [] (tH h' i2 e pl) 0 0 := by
    intro h' e pl i2 L e0 e1 he b' hl
    refine go ok_X4_readClause ?_
    refine Cal.z (c_takeSign (b'.txt hd hT) hl (by decide) (fun j2 z => absurd z he) (fun e2 pl i2 z => absurd z he) (fun i3 _ hl2 => ?_))
    refine go ok_X4_readClause ?_
    exact q2 h' e pl i3 e0 e1 he b' hl2
  refine Con.of ok_X4_readClause (nones := [none, none, none]) rfl (by simp) ?_
  refine go ok_X4_readClause ?_
  refine Cal.z (c_nextPlace hTh hi ?_)
  refine go ok_X4_readClause ?_
  refine Cal.z (c_passWord hSh hTh hle (n := 6) (by decide) (fun _ c1 hr => ?_) (fun c1 => ?_))
  · -- link
    rw [hbb] at c1 hr ⊢
    replace c1 : wAt tx (skp tx i) wLink = true := c1
    have ic : isCls tx (skp tx i) = true := by unfold isCls; rw [c1]; rfl
    have ep : pClsB tx (skp tx i) = pBd (pLinkB tx (run isLt tx (skp tx i))) (fun j c => pBd (pSign tx 59 j) (fun j2 _ => .inr (j2, c))) := by unfold pClsB; rw [if_pos c1]
    unfold pLinkB at ep
    refine go ok_X4_readClause ?_
    refine And.intro (fun c => absurd c (by decide)) (fun c => ?_)
    refine go ok_X4_readClause ?_
    refine Cal.z (c_takeNumber hTh hr (fun j v _ e hl => ?_) (fun e pl _ e2 he => ?_) (fun z => absurd rfl z))
    · have v0 := (pNum_ok e hr)
      refine go ok_X4_readClause ?_
      refine And.intro y1 ?_
      refine Cal.z (c_putT hms hs h8 ?_)
      refine go ok_X4_readClause ?_
      exact m1 _ j (v, 0, 1) _ ic (fun j2 x => by rw [ep, e, pBd, pBd, x]; rfl) (fun e2 x => by rw [ep, e, pBd, pBd, x]; rfl) b.pw hs (hp.snoc hdh h8 (Or.inl ⟨by decide, rfl⟩) (by rw [hI_sI, if_pos ⟨rfl, rfl⟩]) rfl rfl rfl) hl
    · refine go ok_X4_readClause ?_
      refine And.intro y1 ?_
      refine Cal.z (c_putT hms hs h8 ?_)
      refine go ok_X4_readClause ?_
      exact m2 _ e pl _ _ (fun _ => by rw [ep, e2]; rfl) (fun z => by rw [ic] at z; cases z) he b.pw (skp_le hr)
  · have c1 := c1 rfl
    rw [hbb] at c1 ⊢
    replace c1 : wAt tx (skp tx i) wLink = false := c1
    refine go ok_X4_readClause ?_
    refine And.intro (fun c => ?_) (fun c => absurd c (by decide))
    refine go ok_X4_readClause ?_
    refine Cal.z (c_passWord hSh hTh hle (n := 7) (by decide) (fun _ c2 hr => ?_) (fun c2 => ?_))
    · -- row
      rw [hbb] at c2 hr ⊢
      replace c2 : wAt tx (skp tx i) wRow = true := c2
      have ic : isCls tx (skp tx i) = true := by unfold isCls; rw [c2, Bool.true_or, Bool.or_true]
      have ep : pClsB tx (skp tx i) = pBd (pRowB tx (run isLt tx (skp tx i))) (fun j c => pBd (pSign tx 59 j) (fun j2 _ => .inr (j2, c))) := by
        unfold pClsB
        rw [if_neg (by rw [c1]; decide), if_neg (by rw [wAt_two c2 (v := wEver) (by decide)]; decide)]
      rw [pRowB_e] at ep
      refine go ok_X4_readClause ?_
      refine And.intro (fun c => absurd c (by decide)) (fun c => ?_)
      refine go ok_X4_readClause ?_
      refine Cal.z (c_takeNumber hTh hr (fun j v _ e hl => ?_) (fun e pl _ e2 he => ?_) (fun z => absurd rfl z))
      · refine go ok_X4_readClause ?_
        refine Cal.z (c_takeBehind hSh hTh hl (n := 8) (by decide) (fun j2 v2 _ e2 hl2 => ?_) (fun e2 pl i2 _ e3 he hl2 => ?_) (fun i2 z => absurd rfl z))
        · refine go ok_X4_readClause ?_
          refine Cal.z (c_takeBehind hSh hTh hl2 (n := 9) (by decide) (fun j3 v3 _ e3 hl3 => ?_) (fun e3 pl i2 _ e4 he hl3 => ?_) (fun i2 z => absurd rfl z))
          · refine go ok_X4_readClause ?_
            refine And.intro y1 ?_
            refine Cal.z (c_putT hms hs h8 ?_)
            refine go ok_X4_readClause ?_
            replace e2 : pTB tx wBy j = .inr (j2, v2) := e2
            replace e3 : pTB tx wTimes j2 = .inr (j3, v3) := e3
            exact m1 _ j3 (v, v2, v3) _ ic (fun j4 x => by simp only [ep, e, e2, e3, x, pBd]) (fun e4 x => by simp only [ep, e, e2, e3, x, pBd]) b.pw hs (hp.snoc hdh h8 (Or.inl ⟨pTB_pos e3 hl2, rfl⟩) (by rw [hI_sI, if_pos ⟨rfl, rfl⟩]) rfl rfl rfl) hl3
          · refine go ok_X4_readClause ?_
            refine And.intro y1 ?_
            refine Cal.z (c_putT hms hs h8 ?_)
            refine go ok_X4_readClause ?_
            exact m2 _ e3 pl _ _ (fun _ => by simp only [ep, e, show pTB tx wBy j = .inr (j2, v2) from e2, show pTB tx wTimes j2 = .inl (e3, pl) from e4, pBd]) (fun z => by rw [ic] at z; cases z) he b.pw hl3
        · refine go ok_X4_readClause ?_
          refine Cal.z (c_takeBehind hSh hTh hl2 (n := 9) (by decide) (fun j3 v3 z => absurd z he) (fun e3 pl i2 z => absurd z he) (fun i3 z hl3 => ?_))
          refine go ok_X4_readClause ?_
          refine And.intro y1 ?_
          refine Cal.z (c_putT hms hs h8 ?_)
          refine go ok_X4_readClause ?_
          exact m2 _ e2 pl _ _ (fun _ => by simp only [ep, e, show pTB tx wBy j = .inl (e2, pl) from e3, pBd]) (fun z => by rw [ic] at z; cases z) he b.pw hl3
      · refine go ok_X4_readClause ?_
        refine Cal.z (c_takeBehind hSh hTh (skp_le hr) (n := 8) (by decide) (fun j3 v3 z => absurd z he) (fun e3 pl i2 z => absurd z he) (fun i3 z hl3 => ?_))
        refine go ok_X4_readClause ?_
        refine Cal.z (c_takeBehind hSh hTh hl3 (n := 9) (by decide) (fun j3 v3 z => absurd z he) (fun e3 pl i2 z => absurd z he) (fun i4 z hl4 => ?_))
        refine go ok_X4_readClause ?_
        refine And.intro y1 ?_
        refine Cal.z (c_putT hms hs h8 ?_)
        refine go ok_X4_readClause ?_
        exact m2 _ e pl _ _ (fun _ => by rw [ep, e2]; rfl) (fun z => by rw [ic] at z; cases z) he b.pw hl4
    · have c2 := c2 rfl
      rw [hbb] at c2 ⊢
      replace c2 : wAt tx (skp tx i) wRow = false := c2
      refine go ok_X4_readClause ?_
      refine And.intro (fun c => ?_) (fun c => absurd c (by decide))
      refine go ok_X4_readClause ?_
      refine Cal.z (c_passWord hSh hTh hle (n := 10) (by decide) (fun _ c3 hr => ?_) (fun c3 => ?_))
      · -- ever
        rw [hbb] at c3 hr ⊢
        replace c3 : wAt tx (skp tx i) wEver = true := c3
        have ic : isCls tx (skp tx i) = true := by unfold isCls; rw [c3, Bool.or_true, Bool.or_true]
        have ep : pClsB tx (skp tx i) = pBd (pEverB tx (run isLt tx (skp tx i))) (fun j c => pBd (pSign tx 59 j) (fun j2 _ => .inr (j2, c))) := by
          unfold pClsB
          rw [if_neg (by rw [c1]; decide), if_pos c3]
        rw [pEverB_e] at ep
        refine go ok_X4_readClause ?_
        refine And.intro (fun c => absurd c (by decide)) (fun c => ?_)
        refine go ok_X4_readClause ?_
        refine Cal.z (c_takeNumber hTh hr (fun j v _ e hl => ?_) (fun e pl _ e2 he => ?_) (fun z => absurd rfl z))
        · refine go ok_X4_readClause ?_
          refine Cal.z (c_takeBehind hSh hTh hl (n := 8) (by decide) (fun j2 v2 _ e2 hl2 => ?_) (fun e2 pl i2 _ e3 he hl2 => ?_) (fun i2 z => absurd rfl z))
          · replace e2 : pTB tx wBy j = .inr (j2, v2) := e2
            have hh := m1 (sI (pW h q cs.length v v2 (-1)) 324 q 1) j2 (v, v2, -1) [some (vi (nI (skp tx i))), some (vi v), none] ic (fun j4 x => by simp only [ep, e, e2, x, pBd]) (fun e4 x => by simp only [ep, e, e2, x, pBd]) (b.pw.s (Or.inr rfl)) hs (hp.snoc hdh h8 (Or.inr ⟨rfl, by rw [hI_sI, if_neg (by omega), hI_sI, if_pos ⟨rfl, rfl⟩]⟩) (by rw [hI_sI, if_pos ⟨rfl, rfl⟩]) rfl rfl rfl) hl2
            rw [← tH_s2 (by decide)] at hh
            refine go ok_X4_readClause ?_
            refine And.intro y1 ?_
            refine Cal.z (c_putT hms hs h8 ?_)
            refine go ok_X4_readClause ?_
            refine And.intro y1 ?_
            refine And.intro (Or.inr rfl) ?_
            exact hh
          · have hh := m2 (sI (pW h q cs.length v 0 (-1)) 324 q 1) e2 pl i2 [some (vi (nI (skp tx i))), some (vi v), none] (fun _ => by simp only [ep, e, show pTB tx wBy j = .inl (e2, pl) from e3, pBd]) (fun z => by rw [ic] at z; cases z) he (b.pw.s (Or.inr rfl)) hl2
            rw [← tH_s2 (by decide)] at hh
            refine go ok_X4_readClause ?_
            refine And.intro y1 ?_
            refine Cal.z (c_putT hms hs h8 ?_)
            refine go ok_X4_readClause ?_
            refine And.intro y1 ?_
            refine And.intro (Or.inr rfl) ?_
            exact hh
        · refine go ok_X4_readClause ?_
          refine Cal.z (c_takeBehind hSh hTh (skp_le hr) (n := 8) (by decide) (fun j3 v3 z => absurd z he) (fun e3 pl i2 z => absurd z he) (fun i3 z hl3 => ?_))
          have hh := m2 (sI (pW h q cs.length 0 0 (-1)) 324 q 1) e pl i3 [some (vi (nI (skp tx i))), some (vi 0), none] (fun _ => by simp only [ep, e2, pBd]) (fun z => by rw [ic] at z; cases z) he (b.pw.s (Or.inr rfl)) hl3
          rw [← tH_s2 (by decide)] at hh
          refine go ok_X4_readClause ?_
          refine And.intro y1 ?_
          refine Cal.z (c_putT hms hs h8 ?_)
          refine go ok_X4_readClause ?_
          refine And.intro y1 ?_
          refine And.intro (Or.inr rfl) ?_
          exact hh
      · have c3 := c3 rfl
        rw [hbb] at c3 ⊢
        replace c3 : wAt tx (skp tx i) wEver = false := c3
        have ic : isCls tx (skp tx i) = false := by unfold isCls; rw [c1, c2, c3]; rfl
        refine go ok_X4_readClause ?_
        refine And.intro (fun c => ?_) (fun c => absurd c (by decide))
        refine go ok_X4_readClause ?_
        refine Cal.z (c_fail (fun _ => ?_) (fun z => absurd rfl z))
        exact m2 h 1 _ _ _ (fun z => by rw [ic] at z; cases z) (fun _ => rfl) (by decide) b hle
end C37

