/-! ===== the class: the planner's leaves ===== -/
def BWH (N : Nat) (wt : Nat → Nat) (h : AH) : Prop := ∃ bw : List Nat, bw.length = N ∧ (∀ x, x ∈ bw ↔ x < N) ∧ bw.Pairwise (fun x y => wt y ≤ wt x) ∧ ∀ k, k < N → (aI h 46).getD k 0 = nI (gN bw k)
def PLA (N : Nat) (nm dr wt lt : Nat → Nat) (nt : Nat) (h : AH) : Prop :=
  (hI h 266 42 = nI N ∧ N ≤ 7) ∧ (hI h 267 42 = nI nt ∧ 1 ≤ nt ∧ nt ≤ 12) ∧ (∀ i, i < N → (aI h 43).getD i 0 = nI (nm i) ∧ (aI h 44).getD i 0 = nI (dr i) ∧ dr i < 6 ∧ (aI h 45).getD i 0 = nI (wt i) ∧ wt i ≤ 3000000) ∧ BWH N wt h ∧ (∀ k, k < 6 → (aI h 47).getD k 0 = nI (lt k) ∧ lt k ≤ 99) ∧ ∀ i, i < N → 1 ≤ lt (dr i)
section C17
variable {l : Launch} {w : WD} {d : Nat} {h : AH} {Q : Option AV → AH → Prop} {N : Nat} {nm dr wt lt : Nat → Nat} {nt : Nat}
theorem c_behind (hp : PLA N nm dr wt lt nt h) {i : Nat} (hi : i < N) {gone : Int32} {gn : Nat → Bool} (hg : ∀ j, j < N → bt gone j = gn j) (q1 : ∀ j, j < i → gn j = false → dr j = dr i → wt i ≤ wt j → Q (some (vi 1)) h) (q2 : (∀ j, j < i → gn j = false → dr j = dr i → wt j < wt i) → Q (some (vi 0)) h) : Con l w true d HX3_isBehindBetter [vr 42, vi (nI i), vi gone] h 0 0 Q := by
  have h7 := hp.1.2
  obtain ⟨i1, i2, i3, i4, i5⟩ := hp.2.2.1 i hi
  have lp : ∀ n j, j + n = i → (∀ k, k < j → gn k = false → dr k = dr i → wt k < wt i) → Ex l w true mX3_isBehindBetter d Q 2 [some (vr 42), some (vi (nI i)), some (vi gone), some (vi (nI j))] [] h 0 0 := by
    intro n
    induction n with
    | zero =>
      intro j hj ha
      have : j = i := by omega
      subst this
      refine go ok_X3_isBehindBetter ?_
      refine asAnd ?_
      rw [nI_leI (by omega) (by omega)]
      refine And.intro (fun c => ?_) (fun c => ?_)
      · refine go ok_X3_isBehindBetter ?_
        refine And.intro (Or.inl rfl) ?_
        exact q2 ha
      · omega
    | succ n ih =>
      intro j hj ha
      obtain ⟨j1, j2, j3, j4, j5⟩ := hp.2.2.1 j (by omega)
      have nx : (gn j = false → dr j = dr i → wt j < wt i) → Ex l w true mX3_isBehindBetter d Q 47 [some (vr 42), some (vi (nI i)), some (vi gone), some (vi (nI j))] [] h 0 0 := by
        intro z
        have hh := ih (j + 1) (by omega) (fun k hk => by
          by_cases e : k = j
          · subst e; exact z
          · exact ha k (by omega))
        rw [← nI_1] at hh
        refine go ok_X3_isBehindBetter ?_
        exact hh
      refine Ex.lay (fun hy => ?_)
      refine go ok_X3_isBehindBetter ?_
      refine asAnd ?_
      rw [nI_leI (by omega) (by omega)]
      refine And.intro (fun c => ?_) (fun c => ?_)
      · omega
      · refine go ok_X3_isBehindBetter ?_
        refine asAnd ?_
        rw [b_get (by omega), hg j (by omega)]
        refine And.intro (fun c2 => ?_) (fun c2 => ?_)
        · exact nx (fun z => absurd z c2)
        · refine go ok_X3_isBehindBetter ?_
          refine And.intro (ix44 hy rfl (by omega)) ?_
          refine And.intro (ix44 hy rfl (by omega)) ?_
          refine asAnd ?_
          rw [nI_clamp (n := j) (by omega), nI_clamp (n := i) (by omega), j2, i2, nI_eq (by omega) (by omega)]
          refine And.intro (fun c3 => ?_) (fun c3 => ?_)
          · exact nx (fun _ z => absurd z c3)
          · refine go ok_X3_isBehindBetter ?_
            refine And.intro (ix45 hy rfl (by omega)) ?_
            refine And.intro (ix45 hy rfl (by omega)) ?_
            refine asAnd ?_
            rw [nI_clamp (n := j) (by omega), nI_clamp (n := i) (by omega), j4, i4, nI_ltI (by omega) (by omega)]
            refine And.intro (fun c4 => ?_) (fun c4 => ?_)
            · exact nx (fun _ _ => c4)
            · refine go ok_X3_isBehindBetter ?_
              refine And.intro (Or.inr rfl) ?_
              exact q1 j (by omega) c2 c3 (by omega)
  refine Con.of ok_X3_isBehindBetter (nones := [none]) rfl (by simp) ?_
  refine go ok_X3_isBehindBetter ?_
  exact lp i 0 (by omega) (fun k hk => by omega)
theorem c_upTo (hp : PLA N nm dr wt lt nt h) {i : Nat} (hi : i < N) (q : ∀ msk, (∀ m, m < N → bt msk m = (decide (m ≤ i) && decide (dr m = dr i))) → Q (some (vi msk)) h) : Con l w true d HX3_upToOfDoor [vr 42, vi (nI i)] h 0 0 Q := by
  have h7 := hp.1.2
  obtain ⟨i1, i2, i3, i4, i5⟩ := hp.2.2.1 i hi
  have lp : ∀ n j msk, j + n = i + 1 → (∀ m, m < N → bt msk m = (decide (m < j) && decide (dr m = dr i))) → Ex l w true mX3_upToOfDoor d Q 4 [some (vr 42), some (vi (nI i)), some (vi msk), some (vi (nI j))] [] h 0 0 := by
    intro n
    induction n with
    | zero =>
      intro j msk hj hm
      have : j = i + 1 := by omega
      subst this
      refine go ok_X3_upToOfDoor ?_
      refine asAnd ?_
      rw [nI_ltI (by omega) (by omega)]
      refine And.intro (fun c => ?_) (fun c => ?_)
      · refine go ok_X3_upToOfDoor ?_
        exact q msk (fun m hm2 => by rw [hm m hm2]; congr 1; exact decide_eq_decide.mpr (by omega))
      · omega
    | succ n ih =>
      intro j msk hj hm
      obtain ⟨j1, j2, j3, j4, j5⟩ := hp.2.2.1 j (by omega)
      refine Ex.lay (fun hy => ?_)
      refine go ok_X3_upToOfDoor ?_
      refine asAnd ?_
      rw [nI_ltI (by omega) (by omega)]
      refine And.intro (fun c => ?_) (fun c => ?_)
      · omega
      · refine go ok_X3_upToOfDoor ?_
        refine And.intro (ix44 hy rfl (by omega)) ?_
        refine And.intro (ix44 hy rfl (by omega)) ?_
        refine asAnd ?_
        rw [nI_clamp (n := j) (by omega), nI_clamp (n := i) (by omega), j2, i2, nI_eq (by omega) (by omega)]
        refine And.intro (fun c2 => ?_) (fun c2 => ?_)
        · have hh := ih (j + 1) (msk ||| 0) (by omega) (fun m hm2 => by
            rw [b_or, b_0, Bool.or_false, hm m hm2]
            by_cases e : m = j
            · subst e; rw [decide_eq_false c2, Bool.and_false, Bool.and_false]
            · congr 1; exact decide_eq_decide.mpr (by omega))
          rw [← nI_1] at hh
          refine go ok_X3_upToOfDoor ?_
          exact hh
        · have hh := ih (j + 1) (msk ||| ((1 : Int32) <<< (nI j &&& 31))) (by omega) (fun m hm2 => by
            rw [b_put (by omega) (by omega), hm m hm2]
            by_cases e : m = j
            · subst e; rw [decide_eq_true c2, decide_eq_true rfl, decide_eq_true (by omega : m < m + 1), Bool.or_true]; rfl
            · rw [decide_eq_false e, Bool.or_false]; congr 1; exact decide_eq_decide.mpr (by omega))
          rw [← nI_1] at hh
          refine go ok_X3_upToOfDoor ?_
          exact hh
  refine Con.of ok_X3_upToOfDoor (nones := [none, none]) rfl (by simp) ?_
  refine go ok_X3_upToOfDoor ?_
  exact lp (i + 1) 0 0 (by omega) (fun m _ => by rw [b_0]; rfl)
def rmP (lt ff : Nat → Nat) (nt a k : Nat) : Nat := if nt ≤ (if a < ff k then ff k else a) ∨ lt k < 1 then 0 else (nt - 1 - (if a < ff k then ff k else a)) / lt k + 1
theorem rmP_le {ff : Nat → Nat} {a k : Nat} : rmP lt ff nt a k ≤ nt := by
  unfold rmP
  generalize (if a < ff k then ff k else a) = u
  by_cases c : nt ≤ u ∨ lt k < 1
  · rw [if_pos c]; exact Nat.zero_le _
  · rw [if_neg c]
    have h1 : (nt - 1 - u) / lt k ≤ nt - 1 - u := Nat.div_le_self ..
    have h2 : ¬ nt ≤ u := fun z => c (Or.inl z)
    generalize (nt - 1 - u) / lt k = v at *
    omega
theorem nI_dec (k : Nat) : nI k = nI (k + 1) + -1 := by
  rw [← nI_1, Int32.add_assoc]
  show nI k = nI k + 0
  rw [Int32.add_zero]
theorem c_mostFrom (hp : PLA N nm dr wt lt nt h) {a : Nat} (ha : a < nt) {ff : Nat → Nat} (hf : ∀ k, k < 6 → (aI h 48).getD k 0 = nI (ff k) ∧ ff k ≤ 200) {gone : Int32} {gn : Nat → Bool} (hg : ∀ j, j < N → bt gone j = gn j) (q : ∀ r bw, bw.length = N → (∀ x, x ∈ bw ↔ x < N) → bw.Pairwise (fun x y => wt y ≤ wt x) → Q (some (vi (nI (grB dr wt gn bw (rmP lt ff nt a) (nt - a))))) (tI h 49 r)) : Con l w true (d + 1) HX3_mostFrom [vr 42, vi (nI a), vi gone] h 0 0 Q := by
  have h7 := hp.1.2
  obtain ⟨n1, n2, n3⟩ := hp.2.1
  obtain ⟨bw, b1, b2, b3, b4⟩ := hp.2.2.2.1
  have gnb : ∀ k, k < N → gN bw k < N := fun k hk => (b2 _).mp (by unfold gN; rw [List.getD_eq_getElem?_getD, List.getElem?_eq_getElem (by omega)]; exact List.getElem_mem _)
  have q9 : ∀ r kn s k l6, s = grB dr wt gn bw (rmP lt ff nt a) (nt - a) → Ex l w true mX3_mostFrom (d + 1) Q 169 [some (vr 42), some (vi (nI a)), some (vi gone), some (vi kn), some (vi (nI s)), some (vi (nI k)), l6] [] (tI h 49 r) 0 0 := by
    intro r kn s k l6 e
    subst e
    refine go ok_X3_mostFrom ?_
    exact q r bw b1 b2 b3
  -- the second loop
  have lp2 : ∀ n k r (rm : Nat → Nat) kn s l6, k + n = N → r.length = 6 → (∀ j, j < 6 → r.getD j 0 = nI (rm j) ∧ rm j ≤ 12) → kn ≤ 12 → s + grB dr wt gn (bw.drop k) rm kn = grB dr wt gn bw (rmP lt ff nt a) (nt - a) → Ex l w true mX3_mostFrom (d + 1) Q 86 [some (vr 42), some (vi (nI a)), some (vi gone), some (vi (nI kn)), some (vi (nI s)), some (vi (nI k)), l6] [] (tI h 49 r) 0 0 := by
    intro n
    induction n with
    | zero =>
      intro k r rm kn s l6 hk hr hrm hkn hs
      have : k = N := by omega
      subst this
      rw [List.drop_of_length_le (by omega), grB, Nat.add_zero] at hs
      refine go ok_X3_mostFrom ?_
      refine asAnd ?_
      rw [show hI (tI h 49 r) 266 42 = nI k from hp.1.1, nI_leI (by omega) (by omega)]
      refine And.intro (fun c => ?_) (fun c => ?_)
      · exact q9 _ _ _ _ _ hs
      · omega
    | succ n ih =>
      intro k r rm kn s l6 hk hr hrm hkn hs
      obtain ⟨e1, e2, e3, e4, e5⟩ := hp.2.2.1 (gN bw k) (gnb k (by omega))
      have e0 := b4 k (by omega)
      have hd : bw.drop k = gN bw k :: bw.drop (k + 1) := by
        rw [List.drop_eq_getElem_cons (by omega)]
        congr 1
        unfold gN
        rw [List.getD_eq_getElem?_getD, List.getElem?_eq_getElem (by omega)]
        rfl
      rw [hd] at hs
      refine Ex.lay (fun hy => ?_)
      refine go ok_X3_mostFrom ?_
      refine asAnd ?_
      rw [show hI (tI h 49 r) 266 42 = nI N from hp.1.1, nI_leI (by omega) (by omega)]
      refine And.intro (fun c => ?_) (fun c => ?_)
      · omega
      · refine go ok_X3_mostFrom ?_
        refine asAnd ?_
        rw [show (nI kn ≤ 0) ↔ kn = 0 from by rw [show (0 : Int32) = nI 0 from rfl, nI_leI (by omega) (by omega)]; omega]
        refine And.intro (fun c2 => ?_) (fun c2 => ?_)
        · subst c2
          rw [grB, Nat.add_zero] at hs
          exact q9 _ _ _ _ _ hs
        · obtain ⟨kn, rfl⟩ : ∃ m, kn = m + 1 := ⟨kn - 1, by omega⟩
          rw [grB] at hs
          have nx : ∀ r (rm : Nat → Nat) kn s, r.length = 6 → (∀ j, j < 6 → r.getD j 0 = nI (rm j) ∧ rm j ≤ 12) → kn ≤ 12 → s + grB dr wt gn (bw.drop (k + 1)) rm kn = grB dr wt gn bw (rmP lt ff nt a) (nt - a) → Ex l w true mX3_mostFrom (d + 1) Q 163 [some (vr 42), some (vi (nI a)), some (vi gone), some (vi (nI kn)), some (vi (nI s)), some (vi (nI k)), some (vi (nI (gN bw k)))] [] (tI h 49 r) 0 0 := by
            intro r rm kn s x1 x2 x3 x4
            have hh := ih (k + 1) r rm kn s (some (vi (nI (gN bw k)))) (by omega) x1 x2 x3 x4
            rw [← nI_1] at hh
            refine go ok_X3_mostFrom ?_
            exact hh
          obtain ⟨m1, m2⟩ := hrm (dr (gN bw k)) e3
          refine go ok_X3_mostFrom ?_
          refine And.intro (ix46 hy rfl (by omega)) ?_
          refine asAnd ?_
          rw [nI_clamp (n := k) (by omega), show (aI (tI h 49 r) 46).getD k 0 = nI (gN bw k) from e0, b_get (by have := gnb k (by omega); omega), hg _ (gnb k (by omega))]
          refine And.intro (fun c3 => ?_) (fun c3 => ?_)
          · rw [if_pos (Or.inl (by simpa using c3))] at hs
            exact nx r rm (kn + 1) s hr hrm hkn hs
          · have := gnb k (by omega)
            refine go ok_X3_mostFrom ?_
            refine And.intro (ix44 hy rfl (by omega)) ?_
            refine asAnd ?_
            rw [nI_clamp (n := gN bw k) (by omega), show (aI (tI h 49 r) 44).getD (gN bw k) 0 = nI (dr (gN bw k)) from e2]
            refine And.intro (ix49 hy rfl (by omega)) ?_
            refine asAnd ?_
            rw [nI_clamp (n := dr (gN bw k)) (by omega), show (aI (tI h 49 r) 49).getD (dr (gN bw k)) 0 = nI (rm (dr (gN bw k))) from m1, show (nI (rm (dr (gN bw k))) ≤ 0) ↔ rm (dr (gN bw k)) = 0 from by rw [show (0 : Int32) = nI 0 from rfl, nI_leI (by omega) (by omega)]; omega]
            refine And.intro (fun c4 => ?_) (fun c4 => ?_)
            · rw [if_pos (Or.inr c4)] at hs
              exact nx r rm (kn + 1) s hr hrm hkn hs
            · rw [if_neg (fun z => z.elim (fun y => by rw [c3] at y; cases y) c4)] at hs
              have hh := nx (r.set (dr (gN bw k)) (nI (rm (dr (gN bw k)) - 1))) (upF rm (dr (gN bw k)) (rm (dr (gN bw k)) - 1)) kn (s + wt (gN bw k)) (by rw [List.length_set]; exact hr) (fun j hj => by
                rw [getD_set]
                by_cases e : j = dr (gN bw k)
                · rw [if_pos ⟨e, by omega⟩, e, upF_e]; exact ⟨rfl, by omega⟩
                · rw [if_neg (fun z => e z.1), upF_n e]; exact hrm j hj) (by omega) (by omega)
              rw [← nI_add, nI_dec kn] at hh
              refine go ok_X3_mostFrom ?_
              refine And.intro (ix44 hy rfl (by omega)) ?_
              refine asAnd ?_
              rw [nI_clamp (n := gN bw k) (by omega), show (aI (tI h 49 r) 44).getD (gN bw k) 0 = nI (dr (gN bw k)) from e2]
              refine And.intro (ix49 hy rfl (by omega)) ?_
              refine asAnd ?_
              rw [nI_clamp (n := dr (gN bw k)) (by omega), show (aI (tI h 49 r) 49).getD (dr (gN bw k)) 0 = nI (rm (dr (gN bw k))) from m1, nI_prd (by omega)]
              refine And.intro (jx49 hy rfl (by omega)) ?_
              refine asAnd ?_
              rw [tI_tI, nI_clamp (n := gN bw k) (by omega), show (aI (tI h 49 _) 45).getD (gN bw k) 0 = nI (wt (gN bw k)) from e4]
              refine And.intro (show ixI (tI h 49 r) 45 _ from ix45 hy rfl (by omega)) ?_
              exact hh
  have lp1 : ∀ n k r l4, k + n = 6 → r.length = 6 → (∀ j, j < k → r.getD j 0 = nI (rmP lt ff nt a j)) → Ex l w true mX3_mostFrom (d + 1) Q 2 [some (vr 42), some (vi (nI a)), some (vi gone), some (vi (nI k)), l4, none, none] [] (tI h 49 r) 0 0 := by
    intro n
    induction n with
    | zero =>
      intro k r l4 hk hr hm
      have : k = 6 := by omega
      subst this
      have hh := lp2 N 0 r (rmP lt ff nt a) (nt - a) 0 none (by omega) hr (fun j hj => ⟨hm j hj, Nat.le_trans rmP_le n3⟩) (by omega) (by rw [List.drop_zero, Nat.zero_add])
      rw [← i32_sub_nI (by omega), ← n1] at hh
      refine go ok_X3_mostFrom ?_
      refine And.intro (fun c => ?_) (fun c => absurd c (by decide))
      refine go ok_X3_mostFrom ?_
      exact hh
    | succ n ih =>
      intro k r l4 hk hr hm
      obtain ⟨f1, f2⟩ := hf k (by omega)
      obtain ⟨t1, t2⟩ := hp.2.2.2.2.1 k (by omega)
      generalize hu : (if a < ff k then ff k else a) = u
      have hu2 : u ≤ 200 := by rw [← hu]; split <;> omega
      have k66 : ∀ z, z = rmP lt ff nt a k → Ex l w true mX3_mostFrom (d + 1) Q 2 [some (vr 42), some (vi (nI a)), some (vi gone), some (vi (nI k + 1)), some (vi (nI u)), none, none] [] (tI (tI h 49 r) 49 (r.set k (nI z))) 0 0 := by
        intro z hz
        have hh := ih (k + 1) (r.set k (nI z)) (some (vi (nI u))) (by omega) (by rw [List.length_set]; exact hr) (fun j hj => by
          rw [getD_set]
          by_cases e : j = k
          · rw [if_pos ⟨e, by omega⟩, e, hz]
          · rw [if_neg (fun y => e y.1)]; exact hm j (by omega))
        rw [← nI_1, ← tI_tI h 49 r] at hh
        exact hh
      unfold rmP at k66
      rw [hu] at k66
      refine Ex.lay (fun hy => ?_)
      refine go ok_X3_mostFrom ?_
      refine asAnd ?_
      rw [show (6 : Int32) = nI 6 from rfl, nI_leI (by omega) (by omega)]
      refine And.intro (fun c => ?_) (fun c => ?_)
      · omega
      · refine go ok_X3_mostFrom ?_
        refine And.intro (ix48 hy rfl (by omega)) ?_
        refine asAnd ?_
        rw [nI_clamp (n := k) (by omega), show (aI (tI h 49 r) 48).getD k 0 = nI (ff k) from f1, nI_max (by omega) (by omega), hu]
        rw [show hI (tI h 49 r) 267 42 = nI nt from n1, nI_leI (by omega) (by omega)]
        refine And.intro (fun c2 => ?_) (fun c2 => ?_)
        · refine go ok_X3_mostFrom ?_
          refine And.intro (jx49 hy rfl (by omega)) ?_
          rw [nI_clamp (n := k) (by omega)]
          exact k66 0 (by rw [if_pos (Or.inl c2)])
        · refine go ok_X3_mostFrom ?_
          refine And.intro (ix47 hy rfl (by omega)) ?_
          refine asAnd ?_
          rw [nI_clamp (n := k) (by omega), show (aI (tI h 49 r) 47).getD k 0 = nI (lt k) from t1, show (1 : Int32) = nI 1 from rfl, nI_leI (by omega) (by omega)]
          refine And.intro (fun c3 => ?_) (fun c3 => ?_)
          · have hh := k66 ((nt - 1 - u) / lt k + 1) (by rw [if_neg (by omega)])
            rw [← nI_1 ((nt - 1 - u) / lt k)] at hh
            refine go ok_X3_mostFrom ?_
            refine And.intro (ix47 hy rfl (by omega)) ?_
            refine asAnd ?_
            rw [nI_clamp (n := k) (by omega), show (aI (tI h 49 r) 47).getD k 0 = nI (lt k) from t1, show hI (tI h 49 r) 267 42 = nI nt from n1, nI_prd (by omega), i32_sub_nI (by omega), pk_div (by omega) (by omega) (by omega)]
            refine And.intro (fun z => ?_) ?_
            · replace z : nI (lt k) = nI 0 := z
              rw [nI_eq (by omega) (by omega)] at z
              omega
            refine And.intro (jx49 hy rfl (by omega)) ?_
            rw [nI_clamp (n := k) (by omega)]
            exact hh
          · refine go ok_X3_mostFrom ?_
            refine And.intro (jx49 hy rfl (by omega)) ?_
            rw [nI_clamp (n := k) (by omega)]
            exact k66 0 (by rw [if_pos (Or.inr (by omega))])
  refine Con.of ok_X3_mostFrom (nones := [none, none, none, none]) rfl (by simp) ?_
  refine Ex.lay (fun hy => ?_)
  refine go ok_X3_mostFrom ?_
  have hh := lp1 6 0 (aI h 49) none (by omega) (yn49 hy) (fun j hj => by omega)
  rw [tI_self] at hh
  exact hh
end C17

