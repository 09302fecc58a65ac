/-! ===== the reference: plans, the search ===== -/
section R25
variable {l : Launch} {w : WD} {d : Nat} {h : AH} {Q : Option AV → AH → Prop} {S : SG} {mem : List Nat} {P : Nat → Nat} {a : Nat}
theorem r_moreFrom_in (hM : RM S h) (hv : Inv S) (hp : PLH S mem h) {x sum left msk : Int32} (q : ∀ l6 l7, Ex l w true mX9_moreFrom d Q 114 [some (vr 62), some (vi x), some (vi sum), some (vi left), some (vi msk), some (vi (oi (pkM (wtN S mem) (fun m => !bt msk m && okS S mem m) mem.length))), l6, l7] [] h 0 0) : ∀ n i l7, i + n = mem.length →
    Ex l w true mX9_moreFrom d Q 26 [some (vr 62), some (vi x), some (vi sum), some (vi left), some (vi msk), some (vi (oi (pkM (wtN S mem) (fun m => !bt msk m && okS S mem m) i))), some (vi (nI i)), l7] [] h 0 0 := by
  have h12 := hM.m2.2.1
  have h7 := hp.2.1
  intro n
  induction n with
  | zero =>
    intro i l7 hi
    have : i = mem.length := by omega
    subst this
    refine go ok_X9_moreFrom ?_
    refine asAnd ?_
    rw [hp.1, nI_leI (by omega) (by omega)]
    refine And.intro (fun c => ?_) (fun c => ?_)
    · exact q _ _
    · omega
  | succ n ih =>
    intro i l7 hi
    obtain ⟨m1, m2, m3, m4⟩ := hp.2.2 i (by omega)
    obtain ⟨d1, d2⟩ := hv.drs m2
    have hh := fun l7 => ih (i + 1) l7 (by omega)
    simp only [pkM, ← nI_1] at hh
    have hpk := pkM_some (wtN S mem) (av := fun m => !bt msk m && okS S mem m) i
    generalize pkM (wtN S mem) (fun m => !bt msk m && okS S mem m) i = o at hh hpk
    have k106 : ∀ v (l7 : Int32), (!bt msk i && okS S mem i && o.all (fun b => decide (wtN S mem b < wtN S mem i))) = true ∧ v = nI i ∨ (!bt msk i && okS S mem i && o.all (fun b => decide (wtN S mem b < wtN S mem i))) = false ∧ v = oi o → Ex l w true mX9_moreFrom d Q 106 [some (vr 62), some (vi x), some (vi sum), some (vi left), some (vi msk), some (vi (oi o)), some (vi (nI i)), some (vi l7)] [vi v] h 0 0 := by
      intro v l7 hv
      rcases hv with ⟨c, rfl⟩ | ⟨c, rfl⟩
      · simp only [c, if_true] at hh
        refine go ok_X9_moreFrom ?_
        exact hh _
      · simp only [c] at hh
        refine go ok_X9_moreFrom ?_
        exact hh _
    have k70 : ∀ b : Bool, b = (!bt msk i && okS S mem i) → Ex l w true mX9_moreFrom d Q 70 [some (vr 62), some (vi x), some (vi sum), some (vi left), some (vi msk), some (vi (oi o)), some (vi (nI i)), l7] [vi (b2i b)] h 0 0 := by
      intro b hb
      rw [← hb] at k106
      refine Ex.lay (fun hy => ?_)
      refine go ok_X9_moreFrom ?_
      refine And.intro (fun c => ?_) (fun c => ?_)
      · refine go ok_X9_moreFrom ?_
        exact k106 _ _ (Or.inr ⟨by rw [b2i_eq.mp c]; rfl, rfl⟩)
      · rw [b2i_ne.mp c] at k106 ⊢
        cases o with
        | none =>
          refine go ok_X9_moreFrom ?_
          refine And.intro (fun c2 => ?_) (fun c2 => absurd c2 (by decide))
          refine go ok_X9_moreFrom ?_
          exact k106 _ _ (Or.inl ⟨rfl, rfl⟩)
        | some b2 =>
          obtain ⟨g1, -, -⟩ := hpk b2 rfl
          obtain ⟨n1, n2, n3, n4⟩ := hp.2.2 b2 (by omega)
          refine go ok_X9_moreFrom ?_
          refine And.intro (fun c2 => absurd c2 (nI_pos (by omega))) (fun c2 => ?_)
          refine go ok_X9_moreFrom ?_
          refine And.intro (ix85 hy rfl (by omega)) ?_
          refine asAnd ?_
          refine And.intro (ix85 hy (k := b2) rfl (by omega)) ?_
          refine asAnd ?_
          rw [nI_clamp (n := i) (by omega), show (oi (some b2)).toNatClampNeg = b2 from nI_clamp (by omega), m3, n3, nI_leI (by omega) (by omega)]
          refine And.intro (fun c3 => ?_) (fun c3 => ?_)
          · refine go ok_X9_moreFrom ?_
            exact k106 _ _ (Or.inr ⟨by simpa using c3, rfl⟩)
          · refine go ok_X9_moreFrom ?_
            exact k106 _ _ (Or.inl ⟨by simpa using c3, rfl⟩)
    refine Ex.lay (fun hy => ?_)
    refine go ok_X9_moreFrom ?_
    refine asAnd ?_
    rw [hp.1, nI_leI (by omega) (by omega)]
    refine And.intro (fun c => ?_) (fun c => ?_)
    · omega
    · refine go ok_X9_moreFrom ?_
      refine asAnd ?_
      rw [b_get (by omega)]
      refine And.intro (fun c2 => ?_) (fun c2 => ?_)
      · refine go ok_X9_moreFrom ?_
        refine k70 false ?_
        have : bt msk i = true := by simpa using c2
        rw [this]
        rfl
      · refine go ok_X9_moreFrom ?_
        refine And.intro (ix84 hy rfl (by omega)) ?_
        refine asAnd ?_
        rw [nI_clamp (n := i) (by omega), m1]
        refine And.intro (ix63 hy rfl (by omega)) ?_
        refine asAnd ?_
        rw [nI_clamp (n := gN mem i) (by omega), hM.m2.2.2 _ m2, d1]
        refine And.intro (ix70 hy rfl (by omega)) ?_
        refine asAnd ?_
        rw [nI_clamp (n := drS S mem i) (by omega), show aI h 70 = gNv S from hM.m5.1]
        refine And.intro (fun c3 => ?_) (fun c3 => ?_)
        · refine go ok_X9_moreFrom ?_
          refine k70 false ?_
          rw [show okS S mem i = false from decide_eq_false c3, Bool.and_false]
        · refine go ok_X9_moreFrom ?_
          refine k70 true ?_
          rw [show okS S mem i = true from decide_eq_true c3, c2]
          rfl
theorem r_moreFrom_out (hM : RM S h) (hv : Inv S) (hp : PLH S mem h) {x : Int32} : ∀ (n : Nat) (sum : Nat) (msk : Int32) (l5 l6 l7 : Option AV), n ≤ 12 → sum ≤ (12 - n) * 3000000 → (∀ m, m < 32 → mem.length ≤ m → bt msk m = false) → Q (some (vi (nI (sum + grM mem.length (wtN S mem) n (fun m => !bt msk m && okS S mem m))))) h →
    Ex l w true mX9_moreFrom d Q 16 [some (vr 62), some (vi x), some (vi (nI sum)), some (vi (nI n)), some (vi msk), l5, l6, l7] [] h 0 0 := by
  have h7 := hp.2.1
  intro n
  induction n with
  | zero =>
    intro sum msk l5 l6 l7 hn hs hm q
    refine go ok_X9_moreFrom ?_
    refine And.intro (fun c => ?_) (fun c => absurd c (by decide))
    refine go ok_X9_moreFrom ?_
    exact q
  | succ n ih =>
    intro sum msk l5 l6 l7 hn hs hm q
    refine go ok_X9_moreFrom ?_
    refine And.intro (fun c => ?_) (fun c => ?_)
    · replace c : nI (n + 1) ≤ nI 0 := c; rw [nI_leI (by omega) (by omega)] at c
      omega
    · refine go ok_X9_moreFrom ?_
      refine r_moreFrom_in hM hv hp (fun l6 l7 => ?_) mem.length 0 _ (by omega)
      rw [grM] at q
      have hpk := pkM_some (wtN S mem) (av := fun m => !bt msk m && okS S mem m) mem.length
      cases e : pkM (wtN S mem) (fun m => !bt msk m && okS S mem m) mem.length with
      | none =>
        rw [e] at q
        refine go ok_X9_moreFrom ?_
        refine And.intro (fun c2 => absurd c2 (by decide)) (fun c2 => ?_)
        refine go ok_X9_moreFrom ?_
        refine go ok_X9_moreFrom ?_
        refine go ok_X9_moreFrom ?_
        refine And.intro (fun c3 => ?_) (fun c3 => absurd c3 (by decide))
        refine go ok_X9_moreFrom ?_
        exact q
      | some b =>
        rw [e] at q
        dsimp only at q
        obtain ⟨g1, g2, -⟩ := hpk b e
        obtain ⟨n1, n2, n3, n4⟩ := hp.2.2 b g1
        rw [oi_some]
        refine Ex.lay (fun hy => ?_)
        refine go ok_X9_moreFrom ?_
        refine And.intro (fun c2 => ?_) (fun c2 => absurd (nI_pos' (by omega)) c2)
        have hh := fun l5 l6 l7 => ih (sum + wtN S mem b) (msk ||| ((1 : Int32) <<< (nI b &&& 31))) l5 l6 l7 (by omega) (by
            have : (12 - n) * 3000000 = (12 - (n + 1)) * 3000000 + 3000000 := by rw [show 12 - n = (12 - (n + 1)) + 1 by omega, Nat.add_mul, Nat.one_mul]
            omega) (fun m h1 h2 => by rw [b_put (by omega) h1, hm m h1 h2, decide_eq_false (by omega)]; rfl) (by
          rw [Nat.add_assoc]
          rw [grM_cong (N := mem.length) (av2 := fun m => (!bt msk m && okS S mem m) && !decide (m = b)) n _ (fun m hm2 => by
            rw [b_put (by omega) (by omega)]
            cases bt msk m <;> cases okS S mem m <;> cases decide (m = b) <;> rfl)]
          exact q)
        simp only [← nI_add] at hh
        rw [show nI n = nI (n + 1) + -1 by rw [← nI_1, Int32.add_assoc]; show nI n = nI n + 0; rw [Int32.add_zero]] at hh
        refine go ok_X9_moreFrom ?_
        refine And.intro (ix85 hy rfl (by omega)) ?_
        rw [nI_clamp (by omega), n3]
        refine go ok_X9_moreFrom ?_
        exact hh _ _ _
theorem r_moreFrom (hM : RM S h) (hv : Inv S) (hp : PLH S mem h) (ha : a ≤ 12) (hk : KNH mem.length P a h) {nt : Nat} (hnt : nt ≤ 12) (hng : gNg S = nI nt) (hant : a ≤ nt) (q : Q (some (vi (nI (grM mem.length (wtN S mem) (nt - a) (fun m => !usB mem.length P m a && okS S mem m))))) h) : Con l w true (d + 1) HX9_moreFrom [vr 62, vi (nI a)] h 0 0 Q := by
  have h7 := hp.2.1
  refine Con.of ok_X9_moreFrom (nones := [none, none, none, none, none, none]) rfl (by simp) ?_
  refine go ok_X9_moreFrom ?_
  refine Cal.z (r_usedUpTo hp ha hk (fun msk hm => ?_))
  have hh := fun l5 l6 l7 => r_moreFrom_out (l := l) (w := w) (d := d + 1) (Q := Q) hM hv hp (x := nI a) (nt - a) 0 msk l5 l6 l7 (by omega) (Nat.zero_le _) (fun m h1 h2 => by
      rw [hm m h1]
      cases e : usB mem.length P m a with
      | false => rfl
      | true => obtain ⟨k, _, _, h3⟩ := (usB_iff _ _).mp e; omega) (by
    rw [Nat.zero_add, grM_cong (N := mem.length) (av2 := fun m => !usB mem.length P m a && okS S mem m) _ _ (fun m hm2 => by rw [hm m (by omega)])]
    exact q)
  rw [← i32_sub_nI hant, ← hng, show gNg S = hI h 652 62 from hM.m5.2.2.1.symm] at hh
  refine go ok_X9_moreFrom ?_
  exact hh _ _ _
theorem r_findPlan_copy {g : AH} {nt : Nat} (hng : hI g 652 62 = nI nt) (hnt : nt ≤ 12) {best at_ has : Int32} {r : List Int32} (hr : r.length = 12) (q : ∀ s, s.length = 12 → (∀ k, k < nt → s.getD k 0 = r.getD k 0) → Ex l w true mX9_findPlan d Q 128 [some (vr 62), some (vi best), some (vi at_), some (vi has), some (vi (nI nt))] [] (tI (tI g 86 r) 87 s) 0 0) : ∀ n i s, i + n = nt → s.length = 12 → (∀ k, k < i → s.getD k 0 = r.getD k 0) →
    Ex l w true mX9_findPlan d Q 99 [some (vr 62), some (vi best), some (vi at_), some (vi has), some (vi (nI i))] [] (tI (tI g 86 r) 87 s) 0 0 := by
  intro n
  induction n with
  | zero =>
    intro i s hi hs e
    have : i = nt := by omega
    subst this
    refine go ok_X9_findPlan ?_
    refine asAnd ?_
    rw [show hI (tI (tI g 86 r) 87 s) 652 62 = nI i from hng, nI_leI (by omega) (by omega)]
    refine And.intro (fun c => ?_) (fun c => ?_)
    · exact q s hs e
    · omega
  | succ n ih =>
    intro i s hi hs e
    have ei : (nI i).toNatClampNeg = i := nI_clamp (by omega)
    have hh := ih (i + 1) (s.set i (r.getD i 0)) (by omega) (by rw [List.length_set]; exact hs) (fun k hk => by
      rw [getD_set]
      split
      · rename_i z; rw [z.1]
      · rename_i z; exact e k (by omega))
    rw [← nI_1, ← tI_tI (tI g 86 r) 87 s] at hh
    refine Ex.lay (fun hy => ?_)
    refine go ok_X9_findPlan ?_
    refine asAnd ?_
    rw [show hI (tI (tI g 86 r) 87 s) 652 62 = nI nt from hng, nI_leI (by omega) (by omega)]
    refine And.intro (fun c => ?_) (fun c => ?_)
    · omega
    · refine go ok_X9_findPlan ?_
      refine And.intro (ix86 hy rfl (by omega)) ?_
      refine asAnd ?_
      refine And.intro (jx87 hy rfl (by omega)) ?_
      rw [ei]
      exact hh
end R25

