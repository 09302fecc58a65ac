/-! ===== the class: right, count, lose, words, mend ===== -/
section C9
variable {l : Launch} {w : WD} {d : Nat} {h : AH} {Q : Option AV → AH → Prop} {S : SG} {G : GH} {p : Nat}
def ltA (r : RT) (k : Nat) : Int32 := if r.1.getD k 0 = 0 then r.2.1.getD k 0 else 0
theorem RTc.lets {r : RT} {a : Nat} (hr : RTc r a h) (hy : Lay h) : hR h 384 a = a + 1 ∧ hC h (a + 1) = 101 ∧ (aI h (a + 1)).length = 6 := by
  rcases hr.2.1 with z | z
  · subst z; exact ⟨yr384_54 hy, yc55 hy, yn55 hy⟩
  · subst z; exact ⟨yr384_56 hy, yc57 hy, yn57 hy⟩
theorem c_letOf {r : RT} {a : Nat} (hr : RTc r a h) {k : Nat} (hk : k < 6) (q : Q (some (vi (ltA r k))) h) : Con l w true d HX5_letOf [vr a, vi (nI k)] h 0 0 Q := by
  refine Con.of ok_X5_letOf (nones := []) rfl (by simp) ?_
  refine Ex.lay (fun hy => ?_)
  obtain ⟨e1, e2, e3⟩ := hr.lets hy
  obtain ⟨r1, r2, r3, r4, -⟩ := hr
  unfold ltA at q
  refine go ok_X5_letOf ?_
  refine And.intro (fun c => absurd c (nI_pos (by omega))) (fun c => ?_)
  refine go ok_X5_letOf ?_
  refine And.intro r1 ?_
  refine Or.inl ⟨(by rw [e1]; exact e2 : hC h (hR h 384 a) = 101), ?_⟩
  refine asAnd ?_
  rw [e1, e3, nI_leI (by omega) (by omega)]
  refine And.intro (fun c2 => ?_) (fun c2 => ?_)
  · omega
  · refine go ok_X5_letOf ?_
    refine And.intro r1 ?_
    refine asAnd ?_
    rw [b_get (by omega), r4 k hk]
    refine And.intro (fun c3 => ?_) (fun c3 => ?_)
    · rw [if_pos (by simpa using c3)] at q
      refine go ok_X5_letOf ?_
      refine And.intro r1 ?_
      refine asAnd ?_
      rw [e1]
      refine And.intro ⟨Or.inl e2, ix_of rfl (show k < (aI h (a + 1)).length by omega) (by omega)⟩ ?_
      rw [nI_clamp (by omega), r3]
      exact q
    · rw [if_neg (by simpa using c3)] at q
      refine go ok_X5_letOf ?_
      exact q
theorem c_right (hc : RC S G h) {x : Int32} (q : Q (some (vi (rightA S x))) h) : Con l w true (d + 1) HX8_right [vr 32, vi x] h 0 0 Q := by
  have r1 := hc.rt.1
  refine Con.of ok_X8_right (nones := []) rfl (by simp) ?_
  have k10 : ¬ (0 ≤ x ∧ x ≤ 8) → Ex l w true mX8_right (d + 1) Q 10 [some (vr 32), some (vi x)] [] h 0 0 := by
    intro c
    rw [rightA, if_neg c] at q
    refine go ok_X8_right ?_
    exact q
  refine go ok_X8_right ?_
  refine And.intro (fun c => ?_) (fun c => ?_)
  · exact k10 (fun z => absurd z.1 (by simpa using c))
  · refine go ok_X8_right ?_
    refine And.intro (fun c2 => ?_) (fun c2 => ?_)
    · have hx : 0 ≤ x ∧ x ≤ 8 := ⟨by simpa using c, c2⟩
      rw [rightA, if_pos hx] at q
      refine go ok_X8_right ?_
      refine And.intro (fun c3 => ?_) (fun c3 => ?_)
      · rw [if_neg (by simpa using c3)] at q
        refine go ok_X8_right ?_
        refine And.intro (fun c4 => ?_) (fun c4 => ?_)
        · rw [if_neg c4] at q
          refine go ok_X8_right ?_
          refine And.intro (fun c5 => ?_) (fun c5 => ?_)
          · rw [if_neg c5] at q
            refine go ok_X8_right ?_
            refine And.intro r1 ?_
            refine asCal ?_
            rw [show hL h 390 (hR h 583 32) = gCl S from hc.rt.2.2.2.2.2.2]
            refine Cal.z (j_bitCountL ?_)
            refine go ok_X8_right ?_
            exact q
          · rw [if_pos c5] at q
            refine go ok_X8_right ?_
            refine And.intro r1 ?_
            exact Qv q hc.rt.2.2.2.2.2.1.symm
        · rw [if_pos c4] at q
          refine go ok_X8_right ?_
          refine And.intro r1 ?_
          exact Qv q hc.rt.2.2.2.2.1.symm
      · have c3' : x < 6 := by simpa using c3
        rw [if_pos c3'] at q
        obtain ⟨k, hk, rfl⟩ := natOf (n := 8) (by decide) hx.1 hx.2
        replace c3' : nI k < nI 6 := c3'
        rw [nI_ltI (by omega) (by omega)] at c3'
        rw [nI_clamp (by omega)] at q
        refine go ok_X8_right ?_
        refine And.intro r1 ?_
        refine Cal.z (c_letOf hc.rt c3' ?_)
        refine go ok_X8_right ?_
        exact q
    · exact k10 (fun z => c2 z.2)
theorem c_keptIn (hc : aL h 53 = gHs S) {k : Nat} (hk : k < 3) (q : Q (some (vl (hsD S k))) h) : Con l w true d HX0_keptIn [vr 52, vi (nI k)] h 0 0 Q := by
  refine Con.of ok_X0_keptIn (nones := []) rfl (by simp) ?_
  refine Ex.lay (fun hy => ?_)
  refine go ok_X0_keptIn ?_
  refine And.intro (fun c => absurd c (nI_pos (by omega))) (fun c => ?_)
  refine go ok_X0_keptIn ?_
  refine asAnd ?_
  rw [show (3 : Int32) = nI 3 from rfl, nI_ltI (by omega) (by omega)]
  refine And.intro (fun c2 => ?_) (fun c2 => ?_)
  · refine go ok_X0_keptIn ?_
    refine And.intro (ix53 hy rfl (by omega)) ?_
    rw [nI_clamp (by omega), hc]
    exact q
  · omega
theorem c_keptInAny (hc : aL h 53 = gHs S) (q : Q (some (vl (hsAll S))) h) : Con l w true d HX0_keptInAny [vr 52] h 0 0 Q := by
  refine Con.of ok_X0_keptInAny (nones := []) rfl (by simp) ?_
  refine Ex.lay (fun hy => ?_)
  refine go ok_X0_keptInAny ?_
  refine And.intro (ix53 hy (k := 0) rfl (by omega)) ?_
  refine And.intro (ix53 hy (k := 1) rfl (by omega)) ?_
  refine And.intro (ix53 hy (k := 2) rfl (by omega)) ?_
  rw [hc]
  exact q
theorem c_holes (hc : RC S G h) (q : Q (some (vi (cntV (gD S) true (gD S).length))) h) : Con l w true (d + 3) HX8_holes [vr 32] h 0 0 Q := by
  have h150 := hc.l150
  have lp : ∀ n i, i + n = (gD S).length → Ex l w true mX8_holes (d + 3) Q 4 [some (vr 32), some (vi (cntV (gD S) true i)), some (vi (nI i))] [] h 0 0 := by
    intro n
    induction n with
    | zero =>
      intro i hi
      have : i = (gD S).length := by omega
      subst this
      refine go ok_X8_holes ?_
      refine And.intro hc.lk.1 ?_
      refine Cal.z (hc.lsize ?_)
      refine go ok_X8_holes ?_
      refine asAnd ?_
      rw [nI_leI (by omega) (by omega)]
      refine And.intro (fun c => ?_) (fun c => ?_)
      · refine go ok_X8_holes ?_
        exact q
      · omega
    | succ n ih =>
      intro i hi
      have hh := ih (i + 1) (by omega)
      rw [cntV, if_pos rfl, ← nI_1] at hh
      obtain ⟨⟨t1, -⟩, -, -, -, -, -, -, t8⟩ := hc.lks.2 i (by omega)
      refine go ok_X8_holes ?_
      refine And.intro hc.lk.1 ?_
      refine Cal.z (hc.lsize ?_)
      refine go ok_X8_holes ?_
      refine asAnd ?_
      rw [nI_leI (by omega) (by omega)]
      refine And.intro (fun c => ?_) (fun c => ?_)
      · omega
      · refine go ok_X8_holes ?_
        refine And.intro hc.lk.1 ?_
        refine Cal.z (hc.lget (i := i) (by omega) ?_)
        refine go ok_X8_holes ?_
        refine And.intro (Or.inr t1) ?_
        refine asAnd ?_
        refine And.intro t1 ?_
        refine asAnd ?_
        rw [t8]
        refine And.intro (fun c2 => ?_) (fun c2 => ?_)
        · rw [b2i_eq.mp c2] at hh
          refine go ok_X8_holes ?_
          exact hh
        · rw [b2i_ne.mp c2] at hh
          refine go ok_X8_holes ?_
          exact hh
  refine Con.of ok_X8_holes (nones := [none, none]) rfl (by simp) ?_
  refine go ok_X8_holes ?_
  exact lp (gD S).length 0 (by omega)
/-- all views, page by page -/
def vwN (D : List LK) : Nat → Nat
  | 0 => 0
  | p + 1 => vwN D p + (vws D p).length
def ctN (f : Nat → Bool) (n : Nat) : Nat := ((List.range n).filter f).length
theorem ctN_s (f : Nat → Bool) (n : Nat) : ctN f (n + 1) = ctN f n + (if f n = true then 1 else 0) := by
  unfold ctN
  rw [List.range_succ, List.filter_append, List.length_append]
  by_cases c : f n = true
  · rw [if_pos c]; simp [c]
  · rw [if_neg c]; simp [c]
theorem ctN_ctB (f : Nat → Bool) : ∀ n, ctN f n = ctB f n
  | 0 => rfl
  | n + 1 => by rw [ctN_s, ctB, ctN_ctB f n]
theorem ctB_or {f g : Nat → Bool} : ∀ n, (∀ i, i < n → f i = true → g i = false) → ctB (fun i => f i || g i) n = ctB f n + ctB g n
  | 0, _ => rfl
  | n + 1, h => by
    rw [ctB, ctB, ctB, ctB_or n (fun i hi => h i (by omega))]
    have := h n (by omega)
    cases e1 : f n <;> cases e2 : g n
    · simp
    · simp; omega
    · simp; omega
    · rw [e1, e2] at this; exact absurd (this rfl) (by decide)
theorem vwN_ct (D : List LK) : ∀ p, vwN D p = ctB (fun i => decide (pgD D i < p) && isV D i) D.length
  | 0 => by
    rw [vwN, ctB_cong (g := fun _ => false) _ (fun i _ => by rw [decide_eq_false (by omega), Bool.false_and])]
    generalize D.length = n
    induction n with
    | zero => rfl
    | succ n ih => rw [ctB, ← ih]; rfl
  | p + 1 => by
    rw [vwN, vwN_ct D p]
    have e : (vws D p).length = ctB (fun i => decide (pgD D i = p) && isV D i) D.length := ctN_ctB _ _
    rw [e, ← ctB_or]
    · apply ctB_cong
      intro i hi
      cases isV D i
      · simp
      · rw [Bool.and_true, Bool.and_true, Bool.and_true, Bool.eq_iff_iff]
        simp only [Bool.or_eq_true, decide_eq_true_eq]
        omega
    · intro i hi h1
      rw [Bool.and_eq_true, decide_eq_true_eq] at h1
      rw [decide_eq_false (by omega), Bool.false_and]
theorem cntV_ct (D : List LK) : ∀ n, cntV D false n = nI (ctB (isV D) n)
  | 0 => rfl
  | n + 1 => by
    rw [cntV, cntV_ct D n, ctB, if_neg (by decide)]
    cases isV D n
    · exact Int32.add_zero _
    · exact nI_1 _
theorem c_allViews (hc : RC S G h) (hv : Inv S) (q : Q (some (vi (cntV (gD S) false (gD S).length))) h) : Con l w true (d + 3) HX8_allViews [vr 32] h 0 0 Q := by
  have h12 := hc.pgs.2.1
  have e0 : ctB (isV (gD S)) (gD S).length = vwN (gD S) (gDs S).length := by
    rw [vwN_ct]
    apply ctB_cong
    intro i hi
    rw [decide_eq_true (hv.pg hi), Bool.true_and]
  rw [cntV_ct, e0] at q
  have lp : ∀ n i, i + n = (gDs S).length → Ex l w true mX8_allViews (d + 3) Q 4 [some (vr 32), some (vi (nI (vwN (gD S) i))), some (vi (nI i))] [] h 0 0 := by
    intro n
    induction n with
    | zero =>
      intro i hi
      have : i = (gDs S).length := by omega
      subst this
      refine go ok_X8_allViews ?_
      refine And.intro hc.pg.1 ?_
      refine Cal.z (hc.psize ?_)
      refine go ok_X8_allViews ?_
      refine asAnd ?_
      rw [nI_leI (by omega) (by omega)]
      refine And.intro (fun c => ?_) (fun c => ?_)
      · refine go ok_X8_allViews ?_
        exact q
      · omega
    | succ n ih =>
      intro i hi
      have hh := ih (i + 1) (by omega)
      rw [vwN, ← nI_1, ← nI_add] at hh
      obtain ⟨t4, hf⟩ := hc.fv (p := i) (by omega)
      refine go ok_X8_allViews ?_
      refine And.intro hc.pg.1 ?_
      refine Cal.z (hc.psize ?_)
      refine go ok_X8_allViews ?_
      refine asAnd ?_
      rw [nI_leI (by omega) (by omega)]
      refine And.intro (fun c => ?_) (fun c => ?_)
      · omega
      · refine go ok_X8_allViews ?_
        refine And.intro hc.pg.1 ?_
        refine Cal.z (hc.pget (i := i) (by omega) ?_)
        refine go ok_X8_allViews ?_
        refine And.intro (Or.inr t4) ?_
        refine asAnd ?_
        refine And.intro t4 ?_
        refine asAnd ?_
        refine And.intro hf.1.1 ?_
        refine Cal.z (hf.size ?_)
        refine go ok_X8_allViews ?_
        exact hh
  refine Con.of ok_X8_allViews (nones := [none, none]) rfl (by simp) ?_
  refine go ok_X8_allViews ?_
  exact lp (gDs S).length 0 (by omega)
theorem c_count (hc : RC S G h) (hv : Inv S) {x : Int32} (q : Q (some (vi (countA S x))) h) : Con l w true (d + 4) HX8_count [vr 32, vi x] h 0 0 Q := by
  refine Con.of ok_X8_count (nones := []) rfl (by simp) ?_
  refine go ok_X8_count ?_
  refine And.intro (And.intro (fun c => ?_) (And.intro (fun c => ?_) (And.intro (fun c => ?_) (And.intro (fun c => ?_) (And.intro (fun c => ?_) (And.intro (fun c => ?_) (And.intro (fun c => ?_) (And.intro (fun c => ?_) (And.intro (fun c => ?_) (And.intro (fun c => ?_) (And.intro (fun c => ?_) (True.intro)))))))))))) (fun c => ?_)
  · obtain rfl := toI c
    refine go ok_X8_count ?_
    exact Qv q hc.now.symm
  · obtain rfl := toI c
    refine go ok_X8_count ?_
    refine And.intro hc.pg.1 ?_
    refine Cal.z (hc.psize ?_)
    refine go ok_X8_count ?_
    exact q
  · obtain rfl := toI c
    refine go ok_X8_count ?_
    refine And.intro hc.lk.1 ?_
    refine Cal.z (hc.lsize ?_)
    refine go ok_X8_count ?_
    exact q
  · obtain rfl := toI c
    refine go ok_X8_count ?_
    refine Cal.z (c_holes hc ?_)
    refine go ok_X8_count ?_
    exact q
  · obtain rfl := toI c
    refine go ok_X8_count ?_
    refine Cal.z (c_allViews hc hv ?_)
    refine go ok_X8_count ?_
    exact q
  · obtain rfl := toI c
    refine go ok_X8_count ?_
    refine And.intro hc.wh.1 ?_
    refine Cal.z (j_size hc.wh ?_)
    rw [vwA_len]
    refine go ok_X8_count ?_
    exact q
  · obtain rfl := toI c
    refine go ok_X8_count ?_
    exact Qv q hc.tx.1.symm
  · obtain rfl := toI c
    refine go ok_X8_count ?_
    refine Cal.z (c_keptIn (k := 0) hc.hs (by decide) ?_)
    refine go ok_X8_count ?_
    refine Cal.z (j_bitCountL ?_)
    refine go ok_X8_count ?_
    exact q
  · obtain rfl := toI c
    refine go ok_X8_count ?_
    refine Cal.z (c_keptIn (k := 1) hc.hs (by decide) ?_)
    refine go ok_X8_count ?_
    refine Cal.z (j_bitCountL ?_)
    refine go ok_X8_count ?_
    exact q
  · obtain rfl := toI c
    refine go ok_X8_count ?_
    refine Cal.z (c_keptIn (k := 2) hc.hs (by decide) ?_)
    refine go ok_X8_count ?_
    refine Cal.z (j_bitCountL ?_)
    refine go ok_X8_count ?_
    exact q
  · obtain rfl := toI c
    refine go ok_X8_count ?_
    refine Cal.z (c_piecesEver hc hv ?_)
    refine go ok_X8_count ?_
    refine Cal.z (c_keptInAny hc.hs ?_)
    refine go ok_X8_count ?_
    refine Cal.z (j_bitCountL ?_)
    refine go ok_X8_count ?_
    exact q
  · have c : ¬ (0 ≤ x ∧ x ≤ 10) := outT (k := 10) (by decide) c
    rw [countA, if_neg c] at q
    refine go ok_X8_count ?_
    exact q
/-- only the houses have changed -/
theorem RC.hs' (hc : RC S G h) (v : List Int64) : RC (sHs S v) G (tL h 53 v) := by
  obtain ⟨a1, a2, a3, a4, a5, a6, a7, a8, a9, a10, -, a12, a13, a14⟩ := hc
  exact ⟨a1, a2, a3, a4, a5, a6, a7, a8, a9, a10, rfl, a12, a13, a14⟩
theorem OX.h53 (v : List Int64) : OX h (tL h 53 v) := ⟨fun _ _ => ⟨rfl, rfl⟩, fun a h1 h2 => ⟨rfl, by show up1 (aL h) 53 v a = aL h a; exact up1_ne (by omega)⟩⟩
theorem c_lose (hc : RC S G h) {a b : Int32} (q : ∀ h', RC (loseF S a b).2 G h' → OX h h' → Q (some (vi (loseF S a b).1)) h') : Con l w true (d + 2) HX8_lose [vr 32, vi a, vi b] h 0 0 Q := by
  refine Con.of ok_X8_lose (nones := []) rfl (by simp) ?_
  have k9 : ¬ (0 ≤ a ∧ a ≤ 2) → Ex l w true mX8_lose (d + 2) Q 9 [some (vr 32), some (vi a), some (vi b)] [] h 0 0 := by
    intro c
    rw [loseF, if_neg c] at q
    refine go ok_X8_lose ?_
    exact q _ hc (OX.rf h)
  refine go ok_X8_lose ?_
  refine And.intro (fun c => ?_) (fun c => ?_)
  · exact k9 (fun z => absurd z.1 (by simpa using c))
  · obtain ⟨k, hk, rfl⟩ := nI_of c
    refine go ok_X8_lose ?_
    refine asAnd ?_
    rw [show (3 : Int32) = nI 3 from rfl, nI_ltI hk (by omega)]
    refine And.intro (fun c2 => ?_) (fun c2 => ?_)
    · have ha : 0 ≤ nI k ∧ nI k ≤ 2 := ⟨nI_pos' hk, by show nI k ≤ nI 2; rw [nI_leI hk (by omega)]; omega⟩
      rw [loseF, if_pos ha, nI_clamp hk] at q
      refine go ok_X8_lose ?_
      refine Cal.z (k_isPiece (fun c3 => ?_) (fun c3 => ?_))
      · rw [if_pos c3] at q
        refine go ok_X8_lose ?_
        refine And.intro (fun c4 => ?_) (fun c4 => absurd c4 (by decide))
        refine go ok_X8_lose ?_
        have dr : ∀ K : Option AV → AH → Prop, ((hsD S k >>> (b.toInt64 &&& 63)) &&& 1 = 0 → K (some (vi 0)) h) → (¬ (hsD S k >>> (b.toInt64 &&& 63)) &&& 1 = 0 → K (some (vi 1)) (tL h 53 ((gHs S).set k (hsD S k &&& ((1 <<< (b.toInt64 &&& 63)) ^^^ (-1)))))) → Con l w true (d + 1) HX0_drop [vr 52, vi (nI k), vi b] h 0 0 K := by
          intro K q1 q2
          refine Con.of ok_X0_drop (nones := []) rfl (by simp) ?_
          refine Ex.lay (fun hy => ?_)
          refine go ok_X0_drop ?_
          refine Cal.z (c_keptIn hc.hs c2 ?_)
          refine go ok_X0_drop ?_
          refine asAnd ?_
          rw [lg_cmp_eq]
          refine And.intro (fun c5 => ?_) (fun c5 => ?_)
          · refine go ok_X0_drop ?_
            refine And.intro (ix53 hy rfl (by omega)) ?_
            refine asAnd ?_
            refine And.intro (ix53 hy rfl (by omega)) ?_
            rw [nI_clamp hk, hc.hs]
            refine And.intro (Or.inr rfl) ?_
            exact q2 c5
          · refine go ok_X0_drop ?_
            refine And.intro (Or.inl rfl) ?_
            exact q1 c5
        refine Cal.z (dr _ (fun c5 => ?_) (fun c5 => ?_))
        · rw [if_pos c5] at q
          refine go ok_X8_lose ?_
          refine And.intro (fun c6 => ?_) (fun c6 => absurd c6 (by decide))
          refine go ok_X8_lose ?_
          exact q _ hc (OX.rf h)
        · rw [if_neg c5] at q
          refine go ok_X8_lose ?_
          refine And.intro (fun c6 => absurd c6 (by decide)) (fun c6 => ?_)
          refine go ok_X8_lose ?_
          exact q _ (hc.hs' _) (OX.h53 _)
      · rw [if_neg c3] at q
        refine go ok_X8_lose ?_
        refine And.intro (fun c4 => absurd c4 (by decide)) (fun c4 => ?_)
        refine go ok_X8_lose ?_
        exact q _ hc (OX.rf h)
    · refine k9 (fun z => ?_)
      have : nI k ≤ nI 2 := z.2
      rw [nI_leI hk (by omega)] at this
      omega
theorem c_mend (hc : RC S G h) (hv : Inv S) (q : ∀ h', RC (mendF S).2 G h' → OX h h' → Q (some (vi (mendF S).1)) h') : Con l w true (d + 2) HX8_mend [vr 32] h 0 0 Q := by
  have h3 : (gHs S).length = 3 := hv.2.2.2.2.1
  obtain ⟨a, b, c, habc⟩ : ∃ a b c, gHs S = [a, b, c] := by
    match hL : gHs S, h3 with
    | [a, b, c], _ => exact ⟨a, b, c, rfl⟩
  have e53 : aL h 53 = [a, b, c] := hc.hs.trans habc
  have ea : hsAll S = a ||| b ||| c := by unfold hsAll hsD; rw [habc]; rfl
  have hq : Q (some (vi (mendF S).1)) (tL h 53 [a ||| b ||| c, a ||| b ||| c, a ||| b ||| c]) := by
    refine q _ ?_ (OX.h53 _)
    rw [← ea]
    exact hc.hs' _
  have e1 : (mendF S).1 = 0 + ons ((a ||| b ||| c) &&& (a ^^^ (-1))) + ons ((a ||| b ||| c) &&& (b ^^^ (-1))) + ons ((a ||| b ||| c) &&& (c ^^^ (-1))) := by unfold mendF; rw [ea]; unfold hsD; rw [habc]; rfl
  rw [e1] at hq
  have lv : ∀ K : Option AV → AH → Prop, K (some (vi (0 + ons ((a ||| b ||| c) &&& (a ^^^ (-1))) + ons ((a ||| b ||| c) &&& (b ^^^ (-1))) + ons ((a ||| b ||| c) &&& (c ^^^ (-1)))))) (tL h 53 [a ||| b ||| c, a ||| b ||| c, a ||| b ||| c]) → Con l w true (d + 1) HX0_level [vr 52] h 0 0 K := by
    intro K hK
    refine Con.of ok_X0_level (nones := [none, none, none, none]) rfl (by simp) ?_
    refine go ok_X0_level ?_
    refine Cal.z (c_keptInAny hc.hs ?_)
    rw [ea]
    refine go ok_X0_level ?_
    refine Ex.lay (fun hy => ?_)
    refine go ok_X0_level ?_
    refine And.intro (fun c1 => absurd c1 (by decide)) (fun c1 => ?_)
    refine go ok_X0_level ?_
    refine And.intro (ix53 hy (k := 0) rfl (by omega)) ?_
    rw [e53]
    refine Cal.z (j_bitCountL ?_)
    refine go ok_X0_level ?_
    refine And.intro (ix53 hy (k := 0) rfl (by omega)) ?_
    rw [e53]
    refine Ex.lay (fun hy => ?_)
    refine go ok_X0_level ?_
    refine And.intro (fun c1 => absurd c1 (by decide)) (fun c1 => ?_)
    refine go ok_X0_level ?_
    refine And.intro (ix53 hy (k := 1) rfl (by omega)) ?_
    refine Cal.z (j_bitCountL ?_)
    refine go ok_X0_level ?_
    refine And.intro (ix53 hy (k := 1) rfl (by omega)) ?_
    rw [aL_tL, if_pos rfl, tL_tL]
    refine Ex.lay (fun hy => ?_)
    refine go ok_X0_level ?_
    refine And.intro (fun c1 => absurd c1 (by decide)) (fun c1 => ?_)
    refine go ok_X0_level ?_
    refine And.intro (ix53 hy (k := 2) rfl (by omega)) ?_
    refine Cal.z (j_bitCountL ?_)
    refine go ok_X0_level ?_
    refine And.intro (ix53 hy (k := 2) rfl (by omega)) ?_
    rw [aL_tL, if_pos rfl, tL_tL]
    refine go ok_X0_level ?_
    refine And.intro (fun c1 => ?_) (fun c1 => absurd c1 (by decide))
    refine go ok_X0_level ?_
    exact hK
  refine Con.of ok_X8_mend (nones := []) rfl (by simp) ?_
  refine go ok_X8_mend ?_
  refine Cal.z (lv _ ?_)
  refine go ok_X8_mend ?_
  exact hq
end C9

