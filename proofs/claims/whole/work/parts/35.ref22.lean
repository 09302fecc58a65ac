/-! ===== the reference: program ===== -/
/-- the clauses being read stand in the reference's cells -/
def PH (cs : List CLS) (h : AH) : Prop := ∀ i, i < cs.length → (aI h 80).getD i 0 = (gC cs i).1 ∧ (aI h 81).getD i 0 = (gC cs i).2.1 ∧ (aI h 82).getD i 0 = (gC cs i).2.2
theorem gC_l {cs : List CLS} {c : CLS} {i : Nat} (h : i < cs.length) : gC (cs ++ [c]) i = gC cs i := getD_snoc_l h
theorem gC_e {cs : List CLS} {c : CLS} : gC (cs ++ [c]) cs.length = c := getD_snoc_e
theorem PH.snoc {cs : List CLS} {h h' : AH} {c : CLS} (hp : PH cs h) (e : ∀ i, i < cs.length → (aI h' 80).getD i 0 = (aI h 80).getD i 0 ∧ (aI h' 81).getD i 0 = (aI h 81).getD i 0 ∧ (aI h' 82).getD i 0 = (aI h 82).getD i 0) (e2 : (aI h' 80).getD cs.length 0 = c.1 ∧ (aI h' 81).getD cs.length 0 = c.2.1 ∧ (aI h' 82).getD cs.length 0 = c.2.2) : PH (cs ++ [c]) h' := by
  intro i hi
  rw [List.length_append, List.length_singleton] at hi
  by_cases z : i = cs.length
  · subst z; rw [gC_e]; exact e2
  · rw [gC_l (by omega), (e i (by omega)).1, (e i (by omega)).2.1, (e i (by omega)).2.2]; exact hp i (by omega)
/-- what a clause's reading leaves: entries below k as they were -/
def PX (k : Nat) (h h' : AH) : Prop := ∀ i, i < k → (aI h' 80).getD i 0 = (aI h 80).getD i 0 ∧ (aI h' 81).getD i 0 = (aI h 81).getD i 0 ∧ (aI h' 82).getD i 0 = (aI h 82).getD i 0
theorem PX.rf (k : Nat) (h : AH) : PX k h h := fun _ _ => ⟨rfl, rfl, rfl⟩
theorem PX.ot {k : Nat} {h h' h2 : AH} (a : PX k h h') (b : OT h' h2) : PX k h h2 := fun i hi => by rw [b.2.2.2.1]; exact a i hi
theorem PX.t {k a : Nat} {h h' : AH} {v : Int32} (b : PX k h h') : PX k h (tI h' a ((aI h' a).set k v)) := fun i hi => by
  have hb := b i hi
  refine ⟨?_, ?_, ?_⟩
  · rw [aI_tI]
    split
    · rename_i e; rw [getD_set, if_neg (by omega), ← e]; exact hb.1
    · exact hb.1
  · rw [aI_tI]
    split
    · rename_i e; rw [getD_set, if_neg (by omega), ← e]; exact hb.2.1
    · exact hb.2.1
  · rw [aI_tI]
    split
    · rename_i e; rw [getD_set, if_neg (by omega), ← e]; exact hb.2.2
    · exact hb.2.2
/-- the entry at k -/
def PE (k : Nat) (c : CLS) (h : AH) : Prop := (aI h 80).getD k 0 = c.1 ∧ (aI h 81).getD k 0 = c.2.1 ∧ (aI h 82).getD k 0 = c.2.2
theorem PE.ot {k : Nat} {c : CLS} {h h' : AH} (a : PE k c h) (b : OT h h') : PE k c h' := by
  unfold PE at *
  rw [b.2.2.2.1]
  exact a
theorem pBd_r {α β : Type} {i : Nat} {a : α} {f : Nat → α → PR β} : pBd (.inr (i, a)) f = f i a := rfl
theorem pBd_l {α β : Type} {e : Int32 × Int32} {f : Nat → α → PR β} : pBd (.inl e) f = .inl e := rfl
theorem pBd_a {α β γ : Type} (x : PR α) (f : Nat → α → PR β) (g : Nat → β → PR γ) : pBd (pBd x f) g = pBd x (fun i a => pBd (f i a) g) := by
  rcases x with e | ⟨i, a⟩ <;> rfl
theorem wEq_all {tx ws : List Int32} {b : Nat} : ∀ (n : Nat), wEq tx b ws n = true → ∀ k, k < n → tAt tx (b + k) = ws.getD k 0
  | 0, _, k, hk => absurd hk (Nat.not_lt_zero _)
  | n + 1, e, k, hk => by
    rw [wEq, Bool.and_eq_true, decide_eq_true_eq] at e
    by_cases c : k = n
    · subst c; exact e.2
    · exact wEq_all n e.1 k (by omega)
theorem wAt_k {tx ws : List Int32} {b k : Nat} (e : wAt tx b ws = true) (hk : k < ws.length) : tAt tx (b + k) = ws.getD k 0 := by
  unfold wAt at e
  rw [Bool.and_eq_true] at e
  exact wEq_all _ e.2 k hk
section R22
variable {l : Launch} {w : WD} {d : Nat} {h h0 hz : AH} {Q : Option AV → AH → Prop} {S : SG} {pos k : Nat} {c : CLS}
theorem PE.t81 (hy : Lay h) (hk : k < 8) {v : Int32} (a : PE k c h) : PE k (c.1, v, c.2.2) (tI h 81 ((aI h 81).set k v)) := ⟨a.1, by show ((aI h 81).set k v).getD k 0 = v; rw [getD_set, if_pos ⟨rfl, by rw [yn81 hy]; exact hk⟩], a.2.2⟩
theorem PE.t82 (hy : Lay h) (hk : k < 8) {v : Int32} (a : PE k c h) : PE k (c.1, c.2.1, v) (tI h 82 ((aI h 82).set k v)) := ⟨a.1, a.2.1, by show ((aI h 82).set k v).getD k 0 = v; rw [getD_set, if_pos ⟨rfl, by rw [yn82 hy]; exact hk⟩]⟩
theorem PE.t80 (hy : Lay h) (hk : k < 8) {v : Int32} (a : PE k c h) : PE k (v, c.2.1, c.2.2) (tI h 80 ((aI h 80).set k v)) := ⟨by show ((aI h 80).set k v).getD k 0 = v; rw [getD_set, if_pos ⟨rfl, by rw [yn80 hy]; exact hk⟩], a.2.1, a.2.2⟩
theorem r_takeByF (hf : 0 < hI h 660 62) {x : Int32} (q : Q none h) : Con l w true d HX9_takeBy [vr 62, vi x] h 0 0 Q := by
  refine Con.of ok_X9_takeBy (nones := [none]) rfl (by simp) ?_
  refine go ok_X9_takeBy ?_
  refine And.intro (fun c => ?_) (fun c => ?_)
  · refine go ok_X9_takeBy ?_
    exact q
  · rw [c] at hf
    exact absurd hf (by decide)
theorem r_takeBy (ht : okT S h0 pos h) (hk : k < 8) (hpx : PX k hz h) (hpe : PE k c h) (q1 : ∀ h' kk p, pBd (pWord (gTx S) wBy pos) (fun j _ => pNum (gTx S) 0 999 j) = .inl (kk, p) → ftT S h0 kk p h' → Q none h') (q2 : ∀ h' j v, pBd (pWord (gTx S) wBy pos) (fun j _ => pNum (gTx S) 0 999 j) = .inr (j, v) → okT S h0 j h' → PX k hz h' → PE k (c.1, v, c.2.2) h' → Q none h') : Con l w true (d + 2) HX9_takeBy [vr 62, vi (nI k)] h 0 0 Q := by
  have hle := skp_le ht.2.2.2.2
  have ek : (nI k).toNatClampNeg = k := nI_clamp (by omega)
  refine Con.of ok_X9_takeBy (nones := [none]) rfl (by simp) ?_
  refine go ok_X9_takeBy ?_
  refine asAnd ?_
  rw [ht.2.2.2.1]
  refine And.intro (fun c => absurd c (by decide)) (fun c => ?_)
  refine go ok_X9_takeBy ?_
  refine Cal.z (r_takeWord ht (fun h3 ht3 ho3 b3 l3 => ?_))
  refine go ok_X9_takeBy ?_
  refine Cal.z (r_isWordA (n := 2) (ws := wBy) ht3.m6 b3 l3 hle (by decide) rfl ?_)
  unfold pWord at q1 q2
  by_cases cw : wAt (gTx S) (skp (gTx S) pos) wBy = true
  · rw [if_pos cw] at q1 q2
    dsimp only [pBd] at q1 q2
    rw [cw]
    refine go ok_X9_takeBy ?_
    refine Cal.z (r_want1 ht3.2.2.2.1 ?_)
    refine go ok_X9_takeBy ?_
    refine Cal.z (r_takeNumber ht3 (fun h4 k p v e4 hft ho4 => ?_) (fun h4 j4 v e4 ht4 ho4 hbg4 => ?_))
    · refine Ex.lay (fun hy => ?_)
      refine go ok_X9_takeBy ?_
      refine And.intro (jx81 hy rfl hk) ?_
      exact q1 _ _ _ e4 (hft.ob ((OW.rf h4).t (by decide)) rfl rfl)
    · obtain ⟨-, -, -, f4⟩ := pNum_ok e4 ht3.2.2.2.2
      refine Ex.lay (fun hy => ?_)
      refine go ok_X9_takeBy ?_
      refine And.intro (jx81 hy rfl hk) ?_
      rw [ek]
      exact q2 _ _ _ e4 (ht4.ob ((OW.rf h4).t (by decide)) ht4.2.2.1 rfl rfl f4) ((hpx.ot (ho3.tr ho4)).t) ((hpe.ot (ho3.tr ho4)).t81 hy hk)
  · rw [if_neg cw] at q1
    have cw' : wAt (gTx S) (skp (gTx S) pos) wBy = false := by simpa using cw
    rw [cw']
    refine go ok_X9_takeBy ?_
    refine Cal.z (r_want0 ht3.2.2.2.1 (by decide) ?_)
    have hf4 : ftT S h0 1 (nI (skp (gTx S) pos)) (sI (sI h3 660 62 1) 661 62 (hI h3 662 62)) := ht3.fb (((OW.rf h3).s (by decide)).s (by decide)) rfl b3 (by decide)
    generalize sI (sI h3 660 62 1) 661 62 (hI h3 662 62) = h4 at hf4
    refine go ok_X9_takeBy ?_
    refine Cal.z (r_takeNumberF hf4.gt ?_)
    refine Ex.lay (fun hy => ?_)
    refine go ok_X9_takeBy ?_
    refine And.intro (jx81 hy rfl hk) ?_
    exact q1 _ _ _ rfl (hf4.ob ((OW.rf h4).t (by decide)) rfl rfl)
theorem r_isClause {tx : List Int32} {b : Nat} (hM : M6 tx h) (h2 : hI h 662 62 = nI b) (h3 : hI h 663 62 = nI (run isLt tx b - b)) (hb : b ≤ tx.length) (q : Q (some (vi (b2i (isCls tx b)))) h) : Con l w true (d + 1) HX9_isClause [vr 62] h 0 0 Q := by
  unfold isCls at q
  refine Con.of ok_X9_isClause (nones := []) rfl (by simp) ?_
  refine go ok_X9_isClause ?_
  refine Cal.z (r_isWordA (n := 4) (ws := wLink) hM h2 h3 hb (by decide) rfl ?_)
  refine go ok_X9_isClause ?_
  refine And.intro (fun c => ?_) (fun c => ?_)
  · rw [b2i_ne.mp c] at q
    refine go ok_X9_isClause ?_
    refine And.intro (Or.inr rfl) ?_
    exact q
  · rw [b2i_eq.mp c, Bool.false_or] at q
    refine go ok_X9_isClause ?_
    refine Cal.z (r_isWordA (n := 3) (ws := wRow) hM h2 h3 hb (by decide) rfl ?_)
    refine go ok_X9_isClause ?_
    refine And.intro (fun c => ?_) (fun c => ?_)
    · rw [b2i_ne.mp c] at q
      refine go ok_X9_isClause ?_
      refine And.intro (Or.inr rfl) ?_
      exact q
    · rw [b2i_eq.mp c, Bool.false_or] at q
      refine go ok_X9_isClause ?_
      refine Cal.z (r_isWordA (n := 4) (ws := wEver) hM h2 h3 hb (by decide) rfl ?_)
      refine go ok_X9_isClause ?_
      refine And.intro (fun c => ?_) (fun c => ?_)
      · rw [b2i_eq.mp c] at q
        refine go ok_X9_isClause ?_
        refine And.intro (Or.inl rfl) ?_
        exact q
      · rw [b2i_ne.mp c] at q
        refine go ok_X9_isClause ?_
        refine And.intro (Or.inr rfl) ?_
        exact q
theorem r_readClause {b : Nat} (ht : okT S h0 (run isLt (gTx S) b) h) (hk : k < 8) (h2 : hI h 662 62 = nI b) (h3 : hI h 663 62 = nI (run isLt (gTx S) b - b)) (hb : b ≤ (gTx S).length) (q1 : ∀ h' kk p, pClsB (gTx S) b = .inl (kk, p) → ftT S h0 kk p h' → Q none h') (q2 : ∀ h' j c, pClsB (gTx S) b = .inr (j, c) → okT S h0 j h' → PX k h h' → PE k c h' → Q none h') : Con l w true (d + 3) HX9_readClause [vr 62, vi (nI k)] h 0 0 Q := by
  have ek : (nI k).toNatClampNeg = k := nI_clamp (by omega)
  unfold pClsB at q1 q2
  refine Con.of ok_X9_readClause (nones := [none, none, none]) rfl (by simp) ?_
  -- the end of a clause
  have kF : ∀ (h' : AH) (kk p x y : Int32) l4, (if wAt (gTx S) b wLink = true then pLinkB (gTx S) (run isLt (gTx S) b) else if wAt (gTx S) b wEver = true then pEverB (gTx S) (run isLt (gTx S) b) else pRowB (gTx S) (run isLt (gTx S) b)) = .inl (kk, p) → ftT S h0 kk p h' → Ex l w true mX9_readClause (d + 3) Q 143 [some (vr 62), some (vi (nI k)), some (vi x), some (vi y), l4] [] h' 0 0 := by
    intro h' kk p x y l4 e hft
    rw [e] at q1
    refine go ok_X9_readClause ?_
    refine Cal.z (r_takeEndF hft.gt ?_)
    refine go ok_X9_readClause ?_
    exact q1 _ _ _ rfl hft
  have kO : ∀ (h' : AH) (j : Nat) (c : CLS) (x y : Int32) l4, (if wAt (gTx S) b wLink = true then pLinkB (gTx S) (run isLt (gTx S) b) else if wAt (gTx S) b wEver = true then pEverB (gTx S) (run isLt (gTx S) b) else pRowB (gTx S) (run isLt (gTx S) b)) = .inr (j, c) → okT S h0 j h' → PX k h h' → PE k c h' → Ex l w true mX9_readClause (d + 3) Q 143 [some (vr 62), some (vi (nI k)), some (vi x), some (vi y), l4] [] h' 0 0 := by
    intro h' j c x y l4 e ht' hpx hpe
    rw [e] at q1 q2
    dsimp only [pBd] at q1 q2
    refine go ok_X9_readClause ?_
    refine Cal.z (r_takeEnd ht' (fun h2 k p e2 hft _ => ?_) (fun h2 j2 e2 ht2 ho2 => ?_))
    · rw [e2] at q1
      refine go ok_X9_readClause ?_
      exact q1 _ _ _ rfl hft
    · rw [e2] at q2
      refine go ok_X9_readClause ?_
      exact q2 _ _ _ rfl ht2 (hpx.ot ho2) (hpe.ot ho2)
  -- behind a fault
  have kB : ∀ (h' : AH) (kk p : Int32) (x y : Bool) l4, (if wAt (gTx S) b wLink = true then pLinkB (gTx S) (run isLt (gTx S) b) else if wAt (gTx S) b wEver = true then pEverB (gTx S) (run isLt (gTx S) b) else pRowB (gTx S) (run isLt (gTx S) b)) = .inl (kk, p) → ftT S h0 kk p h' → Ex l w true mX9_readClause (d + 3) Q 81 [some (vr 62), some (vi (nI k)), some (vi (b2i x)), some (vi (b2i y)), l4] [] h' 0 0 := by
    intro h' kk p x y l4 e hft
    refine go ok_X9_readClause ?_
    refine And.intro (fun c => ?_) (fun c => ?_)
    · exact kF _ _ _ _ _ _ e hft
    · refine go ok_X9_readClause ?_
      refine And.intro (fun c2 => ?_) (fun c2 => ?_)
      · exact kF _ _ _ _ _ _ e hft
      · refine go ok_X9_readClause ?_
        refine And.intro (fun c => ?_) (fun c => absurd c hft.ne)
        exact kF _ _ _ _ _ _ e hft
  refine go ok_X9_readClause ?_
  refine Cal.z (r_isWordA (n := 4) (ws := wLink) ht.m6 h2 h3 hb (by decide) rfl ?_)
  refine go ok_X9_readClause ?_
  refine Cal.z (r_isWordA (n := 4) (ws := wEver) ht.m6 h2 h3 hb (by decide) rfl ?_)
  generalize hlk : wAt (gTx S) b wLink = lk_ at *
  generalize hev : wAt (gTx S) b wEver = ev_ at *
  have hpl : ∀ kk p, pNum (gTx S) 0 999 (run isLt (gTx S) b) = .inl (kk, p) → (if lk_ = true then pLinkB (gTx S) (run isLt (gTx S) b) else if ev_ = true then pEverB (gTx S) (run isLt (gTx S) b) else pRowB (gTx S) (run isLt (gTx S) b)) = .inl (kk, p) := by
    intro kk p e
    unfold pLinkB pEverB pRowB
    rw [e]
    cases lk_ <;> cases ev_ <;> rfl
  refine go ok_X9_readClause ?_
  refine Cal.z (r_takeNumber ht (fun h4 kk p v e4 hft ho4 => ?_) (fun h4 j4 v e4 ht4 ho4 hbg4 => ?_))
  · have e5 := hpl kk p e4
    refine Ex.lay (fun hy => ?_)
    refine go ok_X9_readClause ?_
    refine And.intro (jx80 hy rfl hk) ?_
    refine asAnd ?_
    refine And.intro (jx81 hy.ti rfl hk) ?_
    have fin : ∀ t, Ex l w true mX9_readClause (d + 3) Q 71 [some (vr 62), some (vi (nI k)), some (vi (b2i lk_)), some (vi (b2i ev_)), none] [vi t, vi (nI k), vr 82] (tI (tI h4 80 ((aI h4 80).set (nI k).toNatClampNeg v)) 81 ((aI (tI h4 80 ((aI h4 80).set (nI k).toNatClampNeg v)) 81).set (nI k).toNatClampNeg 0)) 0 0 := by
      intro t
      refine go ok_X9_readClause ?_
      refine And.intro (jx82 hy.ti.ti rfl hk) ?_
      have hf5 := hft.ob ((((OW.rf h4).t (a := 80) (v := (aI h4 80).set (nI k).toNatClampNeg v) (by decide)).t (a := 81) (v := (aI (tI h4 80 ((aI h4 80).set (nI k).toNatClampNeg v)) 81).set (nI k).toNatClampNeg 0) (by decide)).t (a := 82) (v := (aI (tI (tI h4 80 ((aI h4 80).set (nI k).toNatClampNeg v)) 81 ((aI (tI h4 80 ((aI h4 80).set (nI k).toNatClampNeg v)) 81).set (nI k).toNatClampNeg 0)) 82).set (nI k).toNatClampNeg t) (by decide)) rfl rfl
      refine And.intro (fun c => ?_) (fun c => ?_)
      · exact kB _ _ _ _ _ _ e5 hf5
      · refine go ok_X9_readClause ?_
        refine Cal.z (r_takeByF hf5.gt ?_)
        exact kB _ _ _ _ _ _ e5 hf5
    refine And.intro (fun c => ?_) (fun c => ?_)
    · refine goN 1 ok_X9_readClause ?_
      exact fin 1
    · refine goN 2 ok_X9_readClause ?_
      exact fin (-1)
  · obtain ⟨-, -, -, f4⟩ := pNum_ok e4 ht.2.2.2.2
    unfold pLinkB pEverB pRowB at kF kO kB
    rw [e4] at kF kO kB
    simp only [pBd_r] at kF kO kB
    refine Ex.lay (fun hy => ?_)
    refine go ok_X9_readClause ?_
    refine And.intro (jx80 hy rfl hk) ?_
    refine asAnd ?_
    refine And.intro (jx81 hy.ti rfl hk) ?_
    have fin : ∀ t, t = (if ev_ = true then -1 else 1) → Ex l w true mX9_readClause (d + 3) Q 71 [some (vr 62), some (vi (nI k)), some (vi (b2i lk_)), some (vi (b2i ev_)), none] [vi t, vi (nI k), vr 82] (tI (tI h4 80 ((aI h4 80).set (nI k).toNatClampNeg v)) 81 ((aI (tI h4 80 ((aI h4 80).set (nI k).toNatClampNeg v)) 81).set (nI k).toNatClampNeg 0)) 0 0 := by
      intro t et
      refine go ok_X9_readClause ?_
      refine And.intro (jx82 hy.ti.ti rfl hk) ?_
      rw [ek]
      have hpe0 : PE k ((aI h4 80).getD k 0, (aI h4 81).getD k 0, (aI h4 82).getD k 0) h4 := ⟨rfl, rfl, rfl⟩
      have hpx5 := ((((PX.rf k h).ot ho4).t (a := 80) (v := v)).t (a := 81) (v := 0)).t (a := 82) (v := t)
      have hpe5 := ((hpe0.t80 hy hk (v := v)).t81 hy.ti hk (v := 0)).t82 hy.ti.ti hk (v := t)
      have ht5 := ht4.ob ((((OW.rf h4).t (a := 80) (v := (aI h4 80).set k v) (by decide)).t (a := 81) (v := (aI (tI h4 80 ((aI h4 80).set k v)) 81).set k 0) (by decide)).t (a := 82) (v := (aI (tI (tI h4 80 ((aI h4 80).set k v)) 81 ((aI (tI h4 80 ((aI h4 80).set k v)) 81).set k 0)) 82).set k t) (by decide)) ht4.2.2.1 rfl rfl f4
      generalize tI (tI (tI h4 80 ((aI h4 80).set k v)) 81 ((aI (tI h4 80 ((aI h4 80).set k v)) 81).set k 0)) 82 ((aI (tI (tI h4 80 ((aI h4 80).set k v)) 81 ((aI (tI h4 80 ((aI h4 80).set k v)) 81).set k 0)) 82).set k t) = h5 at hpx5 hpe5 ht5
      dsimp only at hpe5
      cases lk_ with
      | true =>
        have eev : ev_ = false := by
          cases ev_ with
          | false => rfl
          | true =>
            have h1 := wAt_k (k := 0) hlk (by decide)
            have h2 := wAt_k (k := 0) hev (by decide)
            rw [h1] at h2
            exact absurd h2 (by decide)
        subst eev
        refine And.intro (fun c => ?_) (fun c => absurd c (by decide))
        refine go ok_X9_readClause ?_
        refine And.intro (fun c2 => ?_) (fun c2 => absurd c2 (by decide))
        subst et
        exact kO _ _ _ _ _ _ rfl ht5 hpx5 hpe5
      | false =>
        refine And.intro (fun c => absurd c (by decide)) (fun c => ?_)
        refine go ok_X9_readClause ?_
        refine Cal.z (r_takeBy ht5 hk hpx5 hpe5 (fun h6 kk p e6 hf6 => ?_) (fun h6 j6 b6 e6 ht6 hpx6 hpe6 => ?_))
        · have X : ∀ G : Nat → Int32 → PR CLS, pBd (pWord (gTx S) wBy j4) (fun j2 _ => pBd (pNum (gTx S) 0 999 j2) G) = .inl (kk, p) := fun G => by rw [← pBd_a, e6]; rfl
          exact kB _ _ _ _ _ _ (by cases ev_ <;> exact X _) hf6
        · have X : ∀ G : Nat → Int32 → PR CLS, pBd (pWord (gTx S) wBy j4) (fun j2 _ => pBd (pNum (gTx S) 0 999 j2) G) = G j6 b6 := fun G => by rw [← pBd_a, e6]; rfl
          simp only [X] at kF kO
          have hle6 := skp_le ht6.2.2.2.2
          dsimp only at hpe6
          refine go ok_X9_readClause ?_
          refine And.intro (fun c2 => absurd c2 (by decide)) (fun c2 => ?_)
          cases ev_ with
          | true =>
            refine go ok_X9_readClause ?_
            refine And.intro (fun c3 => ?_) (fun c3 => absurd c3 (by decide))
            subst et
            exact kO _ _ _ _ _ _ rfl ht6 hpx6 hpe6
          | false =>
            refine go ok_X9_readClause ?_
            refine And.intro (fun c3 => absurd c3 (by decide)) (fun c3 => ?_)
            refine go ok_X9_readClause ?_
            refine asAnd ?_
            rw [ht6.2.2.2.1]
            refine And.intro (fun c4 => absurd c4 (by decide)) (fun c4 => ?_)
            refine go ok_X9_readClause ?_
            refine Cal.z (r_takeWord ht6 (fun h7 ht7 ho7 b7 l7 => ?_))
            refine go ok_X9_readClause ?_
            refine Cal.z (r_isWordA (n := 5) (ws := wTimes) ht7.m6 b7 l7 hle6 (by decide) rfl ?_)
            unfold pWord at kF kO
            by_cases cw : wAt (gTx S) (skp (gTx S) j6) wTimes = true
            · rw [if_pos cw] at kF kO
              simp only [pBd_r] at kF kO
              rw [cw]
              refine go ok_X9_readClause ?_
              refine Cal.z (r_want1 ht7.2.2.2.1 ?_)
              refine go ok_X9_readClause ?_
              refine Cal.z (r_takeNumber ht7 (fun h8 kk p v8 e8 hf8 ho8 => ?_) (fun h8 j8 v8 e8 ht8 ho8 _ => ?_))
              · rw [e8] at kF
                refine Ex.lay (fun hy => ?_)
                refine go ok_X9_readClause ?_
                refine And.intro (jx82 hy rfl hk) ?_
                exact kF _ _ _ _ _ _ rfl (hf8.ob ((OW.rf h8).t (by decide)) rfl rfl)
              · rw [e8] at kO
                obtain ⟨-, -, -, f8⟩ := pNum_ok e8 ht7.2.2.2.2
                refine Ex.lay (fun hy => ?_)
                refine go ok_X9_readClause ?_
                refine And.intro (jx82 hy rfl hk) ?_
                rw [ek]
                exact kO _ _ _ _ _ _ rfl (ht8.ob ((OW.rf h8).t (by decide)) ht8.2.2.1 rfl rfl f8) ((hpx6.ot (ho7.tr ho8)).t) ((hpe6.ot (ho7.tr ho8)).t82 hy hk)
            · rw [if_neg cw] at kF
              have cw' : wAt (gTx S) (skp (gTx S) j6) wTimes = false := by simpa using cw
              rw [cw']
              refine go ok_X9_readClause ?_
              refine Cal.z (r_want0 ht7.2.2.2.1 (by decide) ?_)
              have hf8 : ftT S h0 1 (nI (skp (gTx S) j6)) (sI (sI h7 660 62 1) 661 62 (hI h7 662 62)) := ht7.fb (((OW.rf h7).s (by decide)).s (by decide)) rfl b7 (by decide)
              generalize sI (sI h7 660 62 1) 661 62 (hI h7 662 62) = h8 at hf8
              refine go ok_X9_readClause ?_
              refine Cal.z (r_takeNumberF hf8.gt ?_)
              refine Ex.lay (fun hy => ?_)
              refine go ok_X9_readClause ?_
              refine And.intro (jx82 hy rfl hk) ?_
              exact kF _ _ _ _ _ _ rfl (hf8.ob ((OW.rf h8).t (by decide)) rfl rfl)
    refine And.intro (fun c => ?_) (fun c => ?_)
    · refine goN 1 ok_X9_readClause ?_
      exact fin 1 (by rw [b2i_eq.mp c]; rfl)
    · refine goN 2 ok_X9_readClause ?_
      exact fin (-1) (by rw [b2i_ne.mp c]; rfl)
end R22

