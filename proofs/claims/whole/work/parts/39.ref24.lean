/-! ===== the reference: plans ===== -/
def drS (S : SG) (mem : List Nat) (i : Nat) : Nat := ((gDs S).getD (gN mem i) 0).toNatClampNeg
def okS (S : SG) (mem : List Nat) (i : Nat) : Bool := decide ((gNv S).getD (drS S mem i) 0 = 0)
def ltS (S : SG) (k : Nat) : Nat := ((gLt S).getD k 0).toNatClampNeg
/-- a page's worth -/
def wtS (S : SG) (p : Nat) : Int32 := if (vws (gD S) p).length = 0 then 1000 else if rateN (gD S) (gCl S) (vws (gD S) p) < 0 then 0 else rateN (gD S) (gCl S) (vws (gD S) p) * (gNw S - hrD (gD S) (gN (vws (gD S) p) ((vws (gD S) p).length - 1)))
def wtN (S : SG) (mem : List Nat) (i : Nat) : Nat := (wtS S (gN mem i)).toNatClampNeg
def PLH (S : SG) (mem : List Nat) (h : AH) : Prop := hI h 687 62 = nI mem.length ∧ mem.length ≤ 7 ∧ ∀ i, i < mem.length → (aI h 84).getD i 0 = nI (gN mem i) ∧ gN mem i < (gDs S).length ∧ (aI h 85).getD i 0 = nI (wtN S mem i) ∧ wtN S mem i ≤ 3000000
theorem Inv.lts {S : SG} (hv : Inv S) {k : Nat} (hk : k < 6) : (gLt S).getD k 0 = nI (ltS S k) ∧ 1 ≤ ltS S k ∧ ltS S k ≤ 99 := by
  obtain ⟨-, h1, h2⟩ := hv.2.2.2.2.2.1.2.2.1 k hk
  replace h1 : 1 ≤ (gLt S).getD k 0 := h1
  replace h2 : (gLt S).getD k 0 ≤ nI 99 := h2
  obtain ⟨n, hn, e⟩ := natOf (n := 99) (by decide) (Int32.le_trans (by decide) h1) h2
  have e2 : ltS S k = n := by unfold ltS; rw [e, nI_clamp (by omega)]
  rw [e] at h1
  replace h1 : nI 1 ≤ nI n := h1
  rw [nI_leI (by omega) (by omega)] at h1
  exact ⟨by rw [e2]; exact e, by omega, by omega⟩
theorem Inv.ng {S : SG} (hv : Inv S) : ∃ n, 1 ≤ n ∧ n ≤ 12 ∧ gNg S = nI n := by
  obtain ⟨h1, h2⟩ := hv.2.2.2.2.2.1.2.2.2.1
  replace h1 : 1 ≤ gNg S := h1
  replace h2 : gNg S ≤ nI 12 := h2
  obtain ⟨n, hn, e⟩ := natOf (n := 12) (by decide) (Int32.le_trans (by decide) h1) h2
  rw [e] at h1
  replace h1 : nI 1 ≤ nI n := h1
  rw [nI_leI (by omega) (by omega)] at h1
  exact ⟨n, h1, hn, e⟩
theorem Inv.drs {S : SG} (hv : Inv S) {mem : List Nat} {i : Nat} (hi : gN mem i < (gDs S).length) : (gDs S).getD (gN mem i) 0 = nI (drS S mem i) ∧ drS S mem i < 6 := by
  obtain ⟨k, hk, e⟩ := hv.door hi
  have e2 : drS S mem i = k := by unfold drS; rw [e, nI_clamp (by omega)]
  exact ⟨by rw [e2]; exact e, by omega⟩
theorem pkM_cong {wt : Nat → Nat} {av av2 : Nat → Bool} : ∀ n, (∀ m, m < n → av m = av2 m) → pkM wt av n = pkM wt av2 n
  | 0, _ => rfl
  | n + 1, h => by rw [pkM, pkM, pkM_cong n (fun m hm => h m (by omega)), h n (by omega)]
theorem grM_cong {N : Nat} {wt : Nat → Nat} : ∀ (n : Nat) (av av2 : Nat → Bool), (∀ m, m < N → av m = av2 m) → grM N wt n av = grM N wt n av2
  | 0, _, _, _ => rfl
  | n + 1, av, av2, h => by
    rw [grM, grM, pkM_cong N h]
    cases pkM wt av2 N with
    | none => rfl
    | some b => dsimp only; rw [grM_cong n _ _ (fun m hm => by rw [h m hm])]
section R24
variable {l : Launch} {w : WD} {d : Nat} {h : AH} {Q : Option AV → AH → Prop} {S : SG} {mem : List Nat} {P : Nat → Nat} {a : Nat}
/-- knocks of a prefix stand -/
def KNH (n : Nat) (P : Nat → Nat) (a : Nat) (h : AH) : Prop := ∀ k, k < a → (aI h 86).getD k 0 = nI (P k) ∧ P k ≤ n
def mkR (N : Nat) (dr : Nat → Nat) (ok : Nat → Bool) (lt : Nat → Nat) (P : Nat → Nat) (v a : Nat) : Nat → Bool
  | 0 => ok v
  | k + 1 => mkR N dr ok lt P v a k && (!decide (P k = v) && (decide (P k = N) || (!decide (dr (P k) = dr v) || decide (lt (dr v) ≤ a - k))))
theorem mkR_false {N : Nat} {dr : Nat → Nat} {ok : Nat → Bool} {lt : Nat → Nat} {v i : Nat} (e : mkR N dr ok lt P v a i = false) : ∀ n, mkR N dr ok lt P v a (i + n) = false
  | 0 => e
  | n + 1 => by rw [← Nat.add_assoc, mkR, mkR_false e n, Bool.false_and]
theorem mkR_iff {N : Nat} {dr : Nat → Nat} {ok : Nat → Bool} {lt : Nat → Nat} {v : Nat} : ∀ i, mkR N dr ok lt P v a i = true ↔ (ok v = true ∧ ∀ j, j < i → P j ≠ v ∧ (P j = N ∨ dr (P j) ≠ dr v ∨ lt (dr v) ≤ a - j))
  | 0 => by rw [mkR]; exact ⟨fun e => ⟨e, fun j hj => by omega⟩, fun e => e.1⟩
  | i + 1 => by
    rw [mkR, Bool.and_eq_true, mkR_iff i]
    simp only [Bool.and_eq_true, Bool.or_eq_true, Bool.not_eq_true', decide_eq_true_eq, decide_eq_false_iff_not]
    constructor
    · rintro ⟨⟨h1, h2⟩, h3⟩
      refine ⟨h1, fun j hj => ?_⟩
      by_cases c : j = i
      · subst c; exact h3
      · exact h2 j (by omega)
    · rintro ⟨h1, h2⟩
      exact ⟨⟨h1, fun j hj => h2 j (by omega)⟩, h2 i (by omega)⟩
theorem mkR_may {N : Nat} {dr : Nat → Nat} {ok : Nat → Bool} {lt : Nat → Nat} {v : Nat} : mkR N dr ok lt P v a a = true ↔ mayP N dr ok lt (upF P a v) a := by
  rw [mkR_iff, mayP, upF_e]
  constructor
  · rintro ⟨h1, h2⟩
    exact ⟨h1, fun j hj => by rw [upF_n (by omega)]; exact h2 j hj⟩
  · rintro ⟨h1, h2⟩
    exact ⟨h1, fun j hj => by have := h2 j hj; rwa [upF_n (by omega)] at this⟩
theorem r_mayKnock (hM : RM S h) (hv : Inv S) (hp : PLH S mem h) (ha : a ≤ 12) (hk : KNH mem.length P a h) {v : Nat} (hv' : v < mem.length) (q : Q (some (vi (b2i (mkR mem.length (drS S mem) (okS S mem) (ltS S) P v a a)))) h) : Con l w true d HX9_mayKnock [vr 62, vi (nI a), vi (nI v)] h 0 0 Q := by
  have h12 := hM.m2.2.1
  have h7 := hp.2.1
  obtain ⟨m1, m2, m3, m4⟩ := hp.2.2 v hv'
  obtain ⟨d1, d2⟩ := hv.drs m2
  obtain ⟨t1, t2, t3⟩ := hv.lts d2
  have lp : ∀ n i l6, i + n = a → Ex l w true mX9_mayKnock d Q 31 [some (vr 62), some (vi (nI a)), some (vi (nI v)), some (vi (nI (drS S mem v))), some (vi (b2i (mkR mem.length (drS S mem) (okS S mem) (ltS S) P v a i))), some (vi (nI i)), l6] [] h 0 0 := by
    intro n
    induction n with
    | zero =>
      intro i l6 hi
      have : i = a := by omega
      subst this
      refine go ok_X9_mayKnock ?_
      refine asAnd ?_
      rw [nI_leI (by omega) (by omega)]
      refine And.intro (fun c => ?_) (fun c => ?_)
      · refine go ok_X9_mayKnock ?_
        refine And.intro (b2i_01 _) ?_
        exact q
      · omega
    | succ n ih =>
      intro i l6 hi
      obtain ⟨k1, k2⟩ := hk i (by omega)
      have k100 : ∀ b : Bool, b = mkR mem.length (drS S mem) (okS S mem) (ltS S) P v a (i + 1) → Ex l w true mX9_mayKnock d Q 100 [some (vr 62), some (vi (nI a)), some (vi (nI v)), some (vi (nI (drS S mem v))), some (vi (b2i (mkR mem.length (drS S mem) (okS S mem) (ltS S) P v a i))), some (vi (nI i)), some (vi (nI (P i)))] [vi (b2i b)] h 0 0 := by
        intro b hb
        have hh := fun l6 => ih (i + 1) l6 (by omega)
        simp only [← hb, ← nI_1] at hh
        refine go ok_X9_mayKnock ?_
        exact hh _
      rw [mkR] at k100
      refine Ex.lay (fun hy => ?_)
      refine go ok_X9_mayKnock ?_
      refine asAnd ?_
      rw [nI_leI (by omega) (by omega)]
      refine And.intro (fun c => ?_) (fun c => ?_)
      · omega
      · refine go ok_X9_mayKnock ?_
        refine And.intro (fun c2 => ?_) (fun c2 => ?_)
        · have e := mkR_false (b2i_eq.mp c2) (n + 1)
          rw [hi] at e
          rw [e] at q
          rw [b2i_eq.mp c2]
          refine go ok_X9_mayKnock ?_
          refine And.intro (Or.inl rfl) ?_
          exact q
        · rw [b2i_ne.mp c2] at k100 ⊢
          rw [Bool.true_and] at k100
          refine go ok_X9_mayKnock ?_
          refine And.intro (ix86 hy rfl (by omega)) ?_
          refine asAnd ?_
          rw [nI_clamp (by omega), k1, nI_eq (by omega) (by omega)]
          refine And.intro (fun c3 => ?_) (fun c3 => ?_)
          · refine go ok_X9_mayKnock ?_
            exact k100 false (by rw [decide_eq_true c3]; rfl)
          · rw [decide_eq_false c3] at k100
            refine go ok_X9_mayKnock ?_
            refine asAnd ?_
            rw [hp.1, nI_eq (by omega) (by omega)]
            refine And.intro (fun c4 => ?_) (fun c4 => ?_)
            · refine go ok_X9_mayKnock ?_
              exact k100 true (by rw [decide_eq_true c4]; rfl)
            · rw [decide_eq_false c4] at k100
              obtain ⟨n1, n2, n3, n4⟩ := hp.2.2 (P i) (by omega)
              obtain ⟨e1, e2⟩ := hv.drs n2
              refine go ok_X9_mayKnock ?_
              refine And.intro (ix84 hy rfl (by omega)) ?_
              refine asAnd ?_
              rw [nI_clamp (n := P i) (by omega), n1]
              refine And.intro (ix63 hy rfl (by omega)) ?_
              refine asAnd ?_
              rw [nI_clamp (n := gN mem (P i)) (by omega), hM.m2.2.2 _ n2, e1, nI_eq (by omega) (by omega)]
              refine And.intro (fun c5 => ?_) (fun c5 => ?_)
              · refine go ok_X9_mayKnock ?_
                exact k100 true (by rw [decide_eq_false c5]; rfl)
              · rw [decide_eq_true c5] at k100
                refine go ok_X9_mayKnock ?_
                refine And.intro (ix71 hy rfl (by omega)) ?_
                refine asAnd ?_
                rw [nI_clamp (n := drS S mem v) (by omega), show aI h 71 = gLt S from hM.m5.2.1, t1, i32_sub_nI (by omega), nI_ltI (by omega) (by omega)]
                refine And.intro (fun c6 => ?_) (fun c6 => ?_)
                · refine go ok_X9_mayKnock ?_
                  exact k100 false (by rw [decide_eq_false (by omega)]; rfl)
                · refine go ok_X9_mayKnock ?_
                  exact k100 true (by rw [decide_eq_true (by omega)]; rfl)
  refine Con.of ok_X9_mayKnock (nones := [none, none, none, none]) rfl (by simp) ?_
  have k26 : ∀ b : Bool, b = okS S mem v → Ex l w true mX9_mayKnock d Q 26 [some (vr 62), some (vi (nI a)), some (vi (nI v)), some (vi (nI (drS S mem v))), none, none, none] [vi (b2i b)] h 0 0 := by
    intro b hb
    have hh := lp a 0 none (by omega)
    rw [mkR, ← hb] at hh
    refine go ok_X9_mayKnock ?_
    exact hh
  refine Ex.lay (fun hy => ?_)
  refine go ok_X9_mayKnock ?_
  refine And.intro (ix84 hy rfl (by omega)) ?_
  refine asAnd ?_
  rw [nI_clamp (n := v) (by omega), m1]
  refine And.intro (ix63 hy rfl (by omega)) ?_
  refine asAnd ?_
  rw [nI_clamp (n := gN mem v) (by omega), hM.m2.2.2 _ m2, d1]
  refine And.intro (ix70 hy rfl (by omega)) ?_
  refine asAnd ?_
  rw [nI_clamp (n := drS S mem v) (by omega), show aI h 70 = gNv S from hM.m5.1]
  refine And.intro (fun c => ?_) (fun c => ?_)
  · refine go ok_X9_mayKnock ?_
    exact k26 false (decide_eq_false c).symm
  · refine go ok_X9_mayKnock ?_
    exact k26 true (decide_eq_true c).symm
theorem r_usedUpTo (hp : PLH S mem h) (ha : a ≤ 12) (hk : KNH mem.length P a h) (q : ∀ msk, (∀ m, m < 32 → bt msk m = usB mem.length P m a) → Q (some (vi msk)) h) : Con l w true d HX9_usedUpTo [vr 62, vi (nI a)] h 0 0 Q := by
  have h7 := hp.2.1
  have lp : ∀ n i msk, i + n = a → (∀ m, m < 32 → bt msk m = usB mem.length P m i) → Ex l w true mX9_usedUpTo d Q 4 [some (vr 62), some (vi (nI a)), some (vi msk), some (vi (nI i))] [] h 0 0 := by
    intro n
    induction n with
    | zero =>
      intro i msk hi hm
      have : i = a := by omega
      subst this
      refine go ok_X9_usedUpTo ?_
      refine asAnd ?_
      rw [nI_leI (by omega) (by omega)]
      refine And.intro (fun c => ?_) (fun c => ?_)
      · refine go ok_X9_usedUpTo ?_
        exact q msk hm
      · omega
    | succ n ih =>
      intro i msk hi hm
      obtain ⟨k1, k2⟩ := hk i (by omega)
      refine Ex.lay (fun hy => ?_)
      refine go ok_X9_usedUpTo ?_
      refine asAnd ?_
      rw [nI_leI (by omega) (by omega)]
      refine And.intro (fun c => ?_) (fun c => ?_)
      · omega
      · refine go ok_X9_usedUpTo ?_
        refine And.intro (ix86 hy rfl (by omega)) ?_
        refine asAnd ?_
        rw [nI_clamp (by omega), k1, hp.1, nI_leI (by omega) (by omega)]
        refine And.intro (fun c2 => ?_) (fun c2 => ?_)
        · have hh := ih (i + 1) (msk ||| 0) (by omega) (fun m hm2 => by
            rw [b_or, b_0, Bool.or_false, hm m hm2, usB]
            by_cases z : P i = m
            · rw [decide_eq_false (show ¬ m < mem.length by omega), Bool.and_false, Bool.or_false]
            · rw [decide_eq_false z, Bool.false_and, Bool.or_false])
          rw [← nI_1] at hh
          refine go ok_X9_usedUpTo ?_
          exact hh
        · have hh := ih (i + 1) (msk ||| ((1 : Int32) <<< (nI (P i) &&& 31))) (by omega) (fun m hm2 => by
            rw [b_put (by omega) hm2, hm m hm2, usB]
            by_cases z : P i = m
            · rw [decide_eq_true z, decide_eq_true z.symm, decide_eq_true (show m < mem.length by omega)]; rfl
            · rw [decide_eq_false z, decide_eq_false (fun y => z y.symm), Bool.false_and])
          rw [← nI_1] at hh
          refine go ok_X9_usedUpTo ?_
          refine And.intro (ix86 hy rfl (by omega)) ?_
          rw [nI_clamp (by omega), k1]
          exact hh
  refine Con.of ok_X9_usedUpTo (nones := [none, none]) rfl (by simp) ?_
  refine go ok_X9_usedUpTo ?_
  exact lp a 0 0 (by omega) (fun m _ => b_0 m)
theorem smB_le {wt : Nat → Nat} {g : Nat → Bool} {W : Nat} : ∀ n, (∀ m, m < n → wt m ≤ W) → smB wt g n ≤ n * W
  | 0, _ => Nat.zero_le _
  | n + 1, h => by
    have h1 := smB_le (g := g) n (fun m hm => h m (by omega))
    have h2 := h n (by omega)
    rw [smB, Nat.add_mul, Nat.one_mul]
    split <;> omega
theorem r_hasUpTo (hp : PLH S mem h) (ha : a ≤ 12) (hk : KNH mem.length P a h) (q : Q (some (vi (nI (smB (wtN S mem) (fun m => usB mem.length P m a) mem.length)))) h) : Con l w true (d + 1) HX9_hasUpTo [vr 62, vi (nI a)] h 0 0 Q := by
  have h7 := hp.2.1
  refine Con.of ok_X9_hasUpTo (nones := [none, none, none]) rfl (by simp) ?_
  refine go ok_X9_hasUpTo ?_
  refine Cal.z (r_usedUpTo hp ha hk (fun msk hm => ?_))
  have lp : ∀ n i, i + n = mem.length → Ex l w true mX9_hasUpTo (d + 1) Q 11 [some (vr 62), some (vi (nI a)), some (vi msk), some (vi (nI (smB (wtN S mem) (fun m => usB mem.length P m a) i))), some (vi (nI i))] [] h 0 0 := by
    intro n
    induction n with
    | zero =>
      intro i hi
      have : i = mem.length := by omega
      subst this
      refine go ok_X9_hasUpTo ?_
      refine asAnd ?_
      rw [hp.1, nI_leI (by omega) (by omega)]
      refine And.intro (fun c => ?_) (fun c => ?_)
      · refine go ok_X9_hasUpTo ?_
        exact q
      · omega
    | succ n ih =>
      intro i hi
      obtain ⟨n1, n2, n3, n4⟩ := hp.2.2 i (by omega)
      have hh := ih (i + 1) (by omega)
      rw [smB, ← nI_1] at hh
      refine Ex.lay (fun hy => ?_)
      refine go ok_X9_hasUpTo ?_
      refine asAnd ?_
      rw [hp.1, nI_leI (by omega) (by omega)]
      refine And.intro (fun c => ?_) (fun c => ?_)
      · omega
      · refine go ok_X9_hasUpTo ?_
        refine asAnd ?_
        rw [b_get1 (by omega), hm i (by omega)]
        refine And.intro (fun c2 => ?_) (fun c2 => ?_)
        · rw [if_neg c2, ← nI_add] at hh
          refine go ok_X9_hasUpTo ?_
          exact hh
        · rw [if_pos c2, ← nI_add] at hh
          refine go ok_X9_hasUpTo ?_
          refine And.intro (ix85 hy rfl (by omega)) ?_
          rw [nI_clamp (by omega), n3]
          exact hh
  refine go ok_X9_hasUpTo ?_
  exact lp mem.length 0 (by omega)
end R24

