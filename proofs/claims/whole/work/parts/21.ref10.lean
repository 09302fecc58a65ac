/-! ===== the reference: count, right, sure, alike, state, hours, part, wipe ===== -/
theorem natOf {x : Int32} {n : Nat} (hn : n < 2 ^ 31) (h0 : 0 ≤ x) (h1 : x ≤ nI n) : ∃ k, k ≤ n ∧ x = nI k := by
  obtain ⟨k, hk, rfl⟩ := nI_of (x := x) (by simpa using h0)
  rw [nI_leI hk hn] at h1
  exact ⟨k, h1, rfl⟩
theorem Inv.now {S : SG} (hv : Inv S) : ∃ n, n ≤ 3000 ∧ gNw S = nI n := natOf (n := 3000) (by decide) hv.1.1 hv.1.2
theorem i32_sub_nI {a b : Nat} (h : a ≤ b) : nI b - nI a = nI (b - a) := by
  have : nI b = nI (b - a) + nI a := by rw [nI_add]; congr 1; omega
  rw [this, Int32.add_sub_cancel]
section R10
variable {l : Launch} {w : WD} {d : Nat} {h : AH} {Q : Option AV → AH → Prop} {S : SG}
theorem r_allPieces_loop {D : List LK} (hM : M3 D h) (q : Q (some (vl (allPc D D.length))) h) : ∀ n i, i + n = D.length → Ex l w true mX9_allPieces (d + 3) Q 4 [some (vr 62), some (vl (allPc D i)), none, some (vi (nI i))] [] h 0 0 := by
  have hD := hM.2.1
  intro n
  induction n with
  | zero =>
    intro i hi
    have : i = D.length := by omega
    subst this
    refine go ok_X9_allPieces ?_
    refine asAnd ?_
    rw [hM.1]
    refine And.intro (fun c => ?_) (fun c => ?_)
    · refine go ok_X9_allPieces ?_
      exact q
    · exact absurd (nI_le (Nat.le_refl _) (by omega)) c
  | succ n ih =>
    intro i hi
    have hlt : i < D.length := by omega
    have hh := ih (i + 1) (by omega)
    rw [allPc, ← nI_1] at hh
    refine Ex.lay (fun hy => ?_)
    refine go ok_X9_allPieces ?_
    refine asAnd ?_
    rw [hM.1]
    refine And.intro (fun c => ?_) (fun c => ?_)
    · exact absurd c (nI_ge hlt (by omega))
    · refine go ok_X9_allPieces ?_
      refine Cal.z (r_isViewN hM (by omega) ?_)
      refine go ok_X9_allPieces ?_
      refine And.intro (fun c2 => ?_) (fun c2 => ?_)
      · rw [if_neg (by rw [b2i_eq.mp c2]; decide)] at hh
        refine go ok_X9_allPieces ?_
        exact hh
      · rw [if_pos (b2i_ne.mp c2)] at hh
        refine go ok_X9_allPieces ?_
        refine And.intro (ix67 hy rfl (by omega)) ?_
        rw [nI_clamp (by omega), (hM.2.2 i hlt).2.2.2.1]
        exact hh
theorem r_allPieces {D : List LK} (hM : M3 D h) (q : Q (some (vl (allPc D D.length))) h) : Con l w true (d + 3) HX9_allPieces [vr 62] h 0 0 Q := by
  refine Con.of ok_X9_allPieces (nones := [none, none, none]) rfl (by simp) ?_
  refine go ok_X9_allPieces ?_
  exact r_allPieces_loop hM q D.length 0 (by omega)
theorem r_allViews_loop {D : List LK} (hM : M3 D h) {b : Bool} (q : Q (some (vi (cntV D b D.length))) h) : ∀ n i, i + n = D.length → Ex l w true mX9_allViews (d + 3) Q 4 [some (vr 62), some (vi (b2i b)), some (vi (cntV D b i)), some (vi (nI i))] [] h 0 0 := by
  have hD := hM.2.1
  intro n
  induction n with
  | zero =>
    intro i hi
    have : i = D.length := by omega
    subst this
    refine go ok_X9_allViews ?_
    refine asAnd ?_
    rw [hM.1]
    refine And.intro (fun c => ?_) (fun c => ?_)
    · refine go ok_X9_allViews ?_
      exact q
    · exact absurd (nI_le (Nat.le_refl _) (by omega)) c
  | succ n ih =>
    intro i hi
    have hlt : i < D.length := by omega
    have hh := ih (i + 1) (by omega)
    rw [cntV, ← nI_1] at hh
    refine Ex.lay (fun hy => ?_)
    refine go ok_X9_allViews ?_
    refine asAnd ?_
    rw [hM.1]
    refine And.intro (fun c => ?_) (fun c => ?_)
    · exact absurd c (nI_ge hlt (by omega))
    · refine go ok_X9_allViews ?_
      refine And.intro (fun c2 => ?_) (fun c2 => ?_)
      · rw [if_neg (by rw [b2i_eq.mp c2]; decide)] at hh
        refine go ok_X9_allViews ?_
        refine Cal.z (r_isViewN hM (by omega) ?_)
        refine go ok_X9_allViews ?_
        refine Cal.z (r_one ?_)
        refine go ok_X9_allViews ?_
        exact hh
      · rw [if_pos (b2i_ne.mp c2)] at hh
        refine go ok_X9_allViews ?_
        refine And.intro (ix66 hy rfl (by omega)) ?_
        rw [nI_clamp (by omega), (hM.2.2 i hlt).2.2.1]
        refine And.intro (fun c3 => ?_) (fun c3 => ?_)
        · rw [decide_eq_false c3] at hh
          refine go ok_X9_allViews ?_
          refine Cal.z (r_one (b := false) ?_)
          refine go ok_X9_allViews ?_
          exact hh
        · rw [decide_eq_true c3] at hh
          refine go ok_X9_allViews ?_
          refine Cal.z (r_one (b := true) ?_)
          refine go ok_X9_allViews ?_
          exact hh
theorem r_allViews {D : List LK} (hM : M3 D h) {b : Bool} (q : Q (some (vi (cntV D b D.length))) h) : Con l w true (d + 3) HX9_allViews [vr 62, vi (b2i b)] h 0 0 Q := by
  refine Con.of ok_X9_allViews (nones := [none, none]) rfl (by simp) ?_
  refine go ok_X9_allViews ?_
  exact r_allViews_loop hM q D.length 0 (by omega)
theorem r_count (hM : RM S h) {x : Int32} (q : Q (some (vi (countA S x))) h) : Con l w true (d + 4) HX9_count [vr 62, vi x] h 0 0 Q := by
  refine Con.of ok_X9_count (nones := []) rfl (by simp) ?_
  refine Ex.lay (fun hy => ?_)
  refine go ok_X9_count ?_
  refine And.intro (And.intro (fun c => ?_) (And.intro (fun c => ?_) (And.intro (fun c => ?_) (And.intro (fun c => ?_) (And.intro (fun c => ?_) (And.intro (fun c => ?_) (And.intro (fun c => ?_) (And.intro (fun c => ?_) (And.intro (fun c => ?_) (And.intro (fun c => ?_) (And.intro (fun c => ?_) (True.intro)))))))))))) (fun c => ?_)
  · obtain rfl := toI c
    refine go ok_X9_count ?_
    exact Qv q hM.1.symm
  · obtain rfl := toI c
    refine go ok_X9_count ?_
    exact Qv q hM.m2.1.symm
  · obtain rfl := toI c
    refine go ok_X9_count ?_
    exact Qv q hM.m3.1.symm
  · obtain rfl := toI c
    refine go ok_X9_count ?_
    refine Cal.z (r_allViews (b := true) hM.m3 ?_)
    refine go ok_X9_count ?_
    exact q
  · obtain rfl := toI c
    refine go ok_X9_count ?_
    refine Cal.z (r_allViews (b := false) hM.m3 ?_)
    refine go ok_X9_count ?_
    exact q
  · obtain rfl := toI c
    refine go ok_X9_count ?_
    exact Qv q hM.m9.1.symm
  · obtain rfl := toI c
    refine go ok_X9_count ?_
    exact Qv q hM.m6.1.symm
  · obtain rfl := toI c
    refine go ok_X9_count ?_
    refine And.intro (ix69 hy (k := 0) rfl (by omega)) ?_
    rw [hM.hs]
    refine Cal.z (r_ones ?_)
    refine go ok_X9_count ?_
    exact q
  · obtain rfl := toI c
    refine go ok_X9_count ?_
    refine And.intro (ix69 hy (k := 1) rfl (by omega)) ?_
    rw [hM.hs]
    refine Cal.z (r_ones ?_)
    refine go ok_X9_count ?_
    exact q
  · obtain rfl := toI c
    refine go ok_X9_count ?_
    refine And.intro (ix69 hy (k := 2) rfl (by omega)) ?_
    rw [hM.hs]
    refine Cal.z (r_ones ?_)
    refine go ok_X9_count ?_
    exact q
  · obtain rfl := toI c
    refine go ok_X9_count ?_
    refine Cal.z (r_allPieces hM.m3 ?_)
    refine go ok_X9_count ?_
    refine And.intro (ix69 hy (k := 0) rfl (by omega)) ?_
    refine And.intro (ix69 hy (k := 1) rfl (by omega)) ?_
    refine And.intro (ix69 hy (k := 2) rfl (by omega)) ?_
    rw [hM.hs]
    refine Cal.z (r_ones ?_)
    refine go ok_X9_count ?_
    exact q
  · have c : ¬ (0 ≤ x ∧ x ≤ 10) := outT (k := 10) (by decide) c
    refine go ok_X9_count ?_
    rw [countA, if_neg c] at q
    exact q
theorem r_right (hM : RM S h) {x : Int32} (q : Q (some (vi (rightA S x))) h) : Con l w true (d + 1) HX9_right [vr 62, vi x] h 0 0 Q := by
  refine Con.of ok_X9_right (nones := []) rfl (by simp) ?_
  refine Ex.lay (fun hy => ?_)
  refine go ok_X9_right ?_
  refine Cal.z (k_in (lo := 0) (hi := 8) rfl rfl (rfl) (fun c => ?_) (fun c => ?_))
  · rw [rightA, if_pos c] at q
    refine go ok_X9_right ?_
    refine And.intro (fun c2 => ?_) (fun c2 => absurd c2 (by decide))
    refine go ok_X9_right ?_
    refine And.intro (fun c3 => ?_) (fun c3 => ?_)
    · rw [if_neg (by simpa using c3)] at q
      refine go ok_X9_right ?_
      refine And.intro (fun c4 => ?_) (fun c4 => ?_)
      · rw [if_neg c4] at q
        refine go ok_X9_right ?_
        refine And.intro (fun c5 => ?_) (fun c5 => ?_)
        · rw [if_neg c5] at q
          refine go ok_X9_right ?_
          refine asCal ?_
          rw [show hL h 654 62 = gCl S from hM.m5.2.2.2.2]
          refine Cal.z (r_ones ?_)
          refine go ok_X9_right ?_
          exact q
        · rw [if_pos c5] at q
          refine go ok_X9_right ?_
          exact Qv q hM.m5.2.2.2.1.symm
      · rw [if_pos c4] at q
        refine go ok_X9_right ?_
        exact Qv q hM.m5.2.2.1.symm
    · have c3' : x < 6 := by simpa using c3
      rw [if_pos c3'] at q
      obtain ⟨k, hk, rfl⟩ := natOf (n := 8) (by decide) c.1 c.2
      replace c3' : nI k < nI 6 := c3'
      rw [nI_ltI (by omega) (by omega)] at c3'
      refine go ok_X9_right ?_
      refine And.intro (ix70 hy rfl (by omega)) ?_
      rw [show aI h 70 = gNv S from hM.m5.1]
      refine And.intro (fun c4 => ?_) (fun c4 => ?_)
      · rw [if_pos c4] at q
        refine go ok_X9_right ?_
        refine And.intro (ix71 hy rfl (by omega)) ?_
        rw [show aI h 71 = gLt S from hM.m5.2.1]
        exact q
      · rw [if_neg c4] at q
        refine go ok_X9_right ?_
        exact q
  · rw [rightA, if_neg c] at q
    refine go ok_X9_right ?_
    refine And.intro (fun c2 => absurd c2 (by decide)) (fun c2 => ?_)
    refine go ok_X9_right ?_
    exact q
theorem r_fault (hM : RM S h) (q : Q (some (vi (gFl S))) h) : Con l w true d HX9_fault [vr 62] h 0 0 Q := by
  refine Con.of ok_X9_fault (nones := []) rfl (by simp) ?_
  refine go ok_X9_fault ?_
  exact Qv q hM.fl.symm
theorem r_sure (hM : RM S h) {p t : Int32} (q : ∀ h', RM S h' → OM h h' → Q (some (vi (sureA S p t))) h') : Con l w true (d + 4) HX9_sure [vr 62, vi p, vi t] h 0 0 Q := by
  have h12 := hM.m2.2.1
  refine Con.of ok_X9_sure (nones := []) rfl (by simp) ?_
  refine go ok_X9_sure ?_
  refine Cal.z (k_noPage hM.m2 (fun e => ?_) (fun k hk ek e => ?_))
  · refine go ok_X9_sure ?_
    refine And.intro (fun c => absurd c (by decide)) (fun c => ?_)
    refine go ok_X9_sure ?_
    rw [sureA, e] at q
    exact q _ hM (OM.rf h)
  · subst ek
    rw [sureA, e] at q
    dsimp only at q
    refine go ok_X9_sure ?_
    refine And.intro (fun c => ?_) (fun c => absurd c (by decide))
    refine go ok_X9_sure ?_
    refine Cal.z (k_isTime hM.1 (fun c2 => ?_) (fun c2 => ?_))
    · rw [if_pos c2] at q
      refine go ok_X9_sure ?_
      refine And.intro (fun c3 => ?_) (fun c3 => absurd c3 (by decide))
      refine go ok_X9_sure ?_
      refine Cal.z (r_findViews hM.m3 (by omega) (fun r hr hrow => ?_))
      refine go ok_X9_sure ?_
      refine Cal.z (r_sureAt (D := gD S) (cl := gCl S) (pt := gPt S) (M3.vw hM.m3) (M5a.vw hM.m5a) (VR.of hM.m3 hrow) ?_)
      refine go ok_X9_sure ?_
      exact q _ hM.v (OM.rf h).v
    · rw [if_neg c2] at q
      refine go ok_X9_sure ?_
      refine And.intro (fun c3 => absurd c3 (by decide)) (fun c3 => ?_)
      refine go ok_X9_sure ?_
      exact q _ hM (OM.rf h)
theorem r_alike (hM : RM S h) {x y : Int32} (q : Q (some (vi (alikeA S x y))) h) : Con l w true (d + 3) HX9_alike [vr 62, vi x, vi y] h 0 0 Q := by
  refine Con.of ok_X9_alike (nones := []) rfl (by simp) ?_
  refine go ok_X9_alike ?_
  refine Cal.z (k_isView hM.m3 (fun e => ?_) (fun k hk ek _ e => ?_))
  · refine go ok_X9_alike ?_
    refine And.intro (fun c => ?_) (fun c => absurd c (by decide))
    refine go ok_X9_alike ?_
    rw [alikeA, e] at q
    exact q
  · subst ek
    refine go ok_X9_alike ?_
    refine And.intro (fun c => absurd c (by decide)) (fun c => ?_)
    refine go ok_X9_alike ?_
    refine Cal.z (k_isView hM.m3 (fun e2 => ?_) (fun j hj ej _ e2 => ?_))
    · refine go ok_X9_alike ?_
      refine And.intro (fun c => ?_) (fun c => absurd c (by decide))
      refine go ok_X9_alike ?_
      rw [alikeA, e, e2] at q
      exact q
    · subst ej
      rw [alikeA, e, e2] at q
      refine go ok_X9_alike ?_
      refine And.intro (fun c => absurd c (by decide)) (fun c => ?_)
      refine go ok_X9_alike ?_
      refine Cal.z (r_areAlike hM.m3 hM.m5a.1 hk hj ?_)
      refine go ok_X9_alike ?_
      refine Cal.z (r_one ?_)
      refine go ok_X9_alike ?_
      exact q
theorem r_stateAtS (hM : RM S h) {k : Nat} (hk : k < (gD S).length) {t : Int32} (q : ∀ h', RM S h' → OM h h' → Q (some (vi (staS S k t))) h') : Con l w true (d + 4) HX9_stateAt [vr 62, vi (nI k), vi t] h 0 0 Q := by
  refine r_stateAt hM.m3 hM.m5a hk (fun r hr hrow => ?_)
  exact q _ hM.v (OM.rf h).v
theorem r_state (hM : RM S h) {x t : Int32} (q : ∀ h', RM S h' → OM h h' → Q (some (vi (stateA S x t))) h') : Con l w true (d + 5) HX9_state [vr 62, vi x, vi t] h 0 0 Q := by
  refine Con.of ok_X9_state (nones := []) rfl (by simp) ?_
  refine go ok_X9_state ?_
  refine Cal.z (k_isView hM.m3 (fun e => ?_) (fun k hk ek _ e => ?_))
  · refine go ok_X9_state ?_
    refine And.intro (fun c => absurd c (by decide)) (fun c => ?_)
    refine go ok_X9_state ?_
    rw [stateA, e] at q
    exact q _ hM (OM.rf h)
  · subst ek
    rw [stateA, e] at q
    dsimp only at q
    refine go ok_X9_state ?_
    refine And.intro (fun c => ?_) (fun c => absurd c (by decide))
    refine go ok_X9_state ?_
    refine Cal.z (k_isTime hM.1 (fun c2 => ?_) (fun c2 => ?_))
    · rw [if_pos c2] at q
      refine go ok_X9_state ?_
      refine And.intro (fun c3 => absurd c3 (by decide)) (fun c3 => ?_)
      refine go ok_X9_state ?_
      refine Cal.z (r_stateAtS hM hk (fun h' h1 h2 => ?_))
      refine go ok_X9_state ?_
      exact q _ h1 h2
    · rw [if_neg c2] at q
      refine go ok_X9_state ?_
      refine And.intro (fun c3 => ?_) (fun c3 => absurd c3 (by decide))
      refine go ok_X9_state ?_
      exact q _ hM (OM.rf h)
theorem r_hours_loop {k a b : Nat} (hk : k < (gD S).length) (hab : a ≤ b) (hb : b ≤ 3000) {x : Int32} (q : ∀ h', RM S h' → OM h h' → Q (some (vi (hrsN S k (nI a) x (b + 1 - a)))) h') : ∀ n i h', i + n = b + 1 - a → RM S h' → OM h h' →
    Ex l w true mX9_hours (d + 5) Q 58 [some (vr 62), some (vi (nI k)), some (vi (nI a)), some (vi (nI b)), some (vi x), some (vi (hrsN S k (nI a) x i)), some (vi (nI a + nI i))] [] h' 0 0 := by
  intro n
  induction n with
  | zero =>
    intro i h' hi hM ho
    have : i = b + 1 - a := by omega
    subst this
    refine go ok_X9_hours ?_
    refine asAnd ?_
    rw [nI_add, nI_ltI (by omega) (by omega)]
    refine And.intro (fun c => ?_) (fun c => ?_)
    · refine go ok_X9_hours ?_
      exact q _ hM ho
    · omega
  | succ n ih =>
    intro i h' hi hM ho
    refine go ok_X9_hours ?_
    refine asAnd ?_
    rw [nI_add, nI_ltI (by omega) (by omega)]
    refine And.intro (fun c => ?_) (fun c => ?_)
    · omega
    · refine go ok_X9_hours ?_
      refine Cal.z (r_stateAtS hM hk (fun h2 h2M h2o => ?_))
      have hh := ih (i + 1) h2 (by omega) h2M (ho.tr h2o)
      rw [hrsN, nI_add a i, nI_add a (i + 1), ← Nat.add_assoc, ← nI_1 (a + i)] at hh
      refine go ok_X9_hours ?_
      refine And.intro (fun c2 => ?_) (fun c2 => ?_)
      · rw [decide_eq_false c2] at hh
        refine go ok_X9_hours ?_
        refine Cal.z (r_one (b := false) ?_)
        refine go ok_X9_hours ?_
        exact hh
      · rw [decide_eq_true c2] at hh
        refine go ok_X9_hours ?_
        refine Cal.z (r_one (b := true) ?_)
        refine go ok_X9_hours ?_
        exact hh
theorem r_hours (hM : RM S h) (hv : Inv S) {y a b x : Int32} (q : ∀ h', RM S h' → OM h h' → Q (some (vi (hoursA S y a b x))) h') : Con l w true (d + 5) HX9_hours [vr 62, vi y, vi a, vi b, vi x] h 0 0 Q := by
  refine Con.of ok_X9_hours (nones := [none, none]) rfl (by simp) ?_
  refine go ok_X9_hours ?_
  refine Cal.z (k_isView hM.m3 (fun e => ?_) (fun k hk ek _ e => ?_))
  · refine go ok_X9_hours ?_
    refine And.intro (fun c => absurd c (by decide)) (fun c => ?_)
    refine go ok_X9_hours ?_
    rw [hoursA, e] at q
    exact q _ hM (OM.rf h)
  · subst ek
    rw [hoursA, e] at q
    dsimp only at q
    have k48 : ¬ ((0 ≤ a ∧ a ≤ gNw S) ∧ (a ≤ b ∧ b ≤ gNw S) ∧ (0 ≤ x ∧ x ≤ 2)) → Ex l w true mX9_hours (d + 5) Q 48 [some (vr 62), some (vi (nI k)), some (vi a), some (vi b), some (vi x), none, none] [] h 0 0 := by
      intro c
      rw [if_neg c] at q
      refine go ok_X9_hours ?_
      exact q _ hM (OM.rf h)
    refine go ok_X9_hours ?_
    refine And.intro (fun c => ?_) (fun c => absurd c (by decide))
    refine go ok_X9_hours ?_
    refine Cal.z (k_isTime hM.1 (fun c2 => ?_) (fun c2 => ?_))
    · refine go ok_X9_hours ?_
      refine And.intro (fun c3 => absurd c3 (by decide)) (fun c3 => ?_)
      refine go ok_X9_hours ?_
      refine Cal.z (k_in (lo := a) (hi := gNw S) rfl rfl (by rw [hM.1]) (fun c3 => ?_) (fun c3 => ?_))
      · refine go ok_X9_hours ?_
        refine And.intro (fun c4 => absurd c4 (by decide)) (fun c4 => ?_)
        refine go ok_X9_hours ?_
        refine Cal.z (k_in (lo := 0) (hi := 2) rfl rfl (rfl) (fun c => ?_) (fun c => ?_))
        · rw [if_pos ⟨c2, c3, c⟩] at q
          obtain ⟨n0, hn0, en0⟩ := hv.now
          rw [en0] at c2 c3
          obtain ⟨a', ha', rfl⟩ := natOf (by omega) c2.1 c2.2
          have hb0 : (0 : Int32) ≤ b := by have h1 := c2.1; have h2 := c3.1; rw [Int32.le_iff_toInt_le] at *; omega
          obtain ⟨b', hb', rfl⟩ := natOf (by omega) hb0 c3.2
          have hab := c3.1
          rw [nI_leI (by omega) (by omega)] at hab
          rw [i32_sub_nI hab, nI_1, nI_clamp (by omega), show b' - a' + 1 = b' + 1 - a' by omega] at q
          refine go ok_X9_hours ?_
          refine And.intro (fun c5 => ?_) (fun c5 => absurd c5 (by decide))
          refine go ok_X9_hours ?_
          have hh := r_hours_loop (l := l) (w := w) (d := d) (h := h) (Q := Q) hk hab (by omega) q (b' + 1 - a') 0 h (by omega) hM (OM.rf h)
          rw [nI_add] at hh
          exact hh
        · refine go ok_X9_hours ?_
          refine And.intro (fun c5 => absurd c5 (by decide)) (fun c5 => ?_)
          exact k48 (fun z => c z.2.2)
      · refine go ok_X9_hours ?_
        refine And.intro (fun c4 => ?_) (fun c4 => absurd c4 (by decide))
        exact k48 (fun z => c3 z.2.1)
    · refine go ok_X9_hours ?_
      refine And.intro (fun c3 => ?_) (fun c3 => absurd c3 (by decide))
      exact k48 (fun z => c2 z.1)
theorem r_part_loop (hM : RM S h) (hv : Inv S) {k : Nat} (hk : k < (gD S).length) (q : Ex l w true mX9_part d Q 60 [some (vr 62), some (vi (nI k)), some (vi (b2i (hasPg S k (gWh S).length))), some (vi (nI (gWh S).length))] [] h 0 0) : ∀ n i, i + n = (gWh S).length →
    Ex l w true mX9_part d Q 16 [some (vr 62), some (vi (nI k)), some (vi (b2i (hasPg S k i))), some (vi (nI i))] [] h 0 0 := by
  have hD := hM.m3.2.1
  have h8 := hM.m9.2.1
  have dk := hM.m3.2.2 k hk
  intro n
  induction n with
  | zero =>
    intro i hi
    have : i = (gWh S).length := by omega
    subst this
    refine go ok_X9_part ?_
    refine asAnd ?_
    rw [hM.m9.1]
    refine And.intro (fun c => ?_) (fun c => ?_)
    · exact q
    · exact absurd (nI_le (Nat.le_refl _) (by omega)) c
  | succ n ih =>
    intro i hi
    have hlt : i < (gWh S).length := by omega
    have hw := hv.wh hlt
    have dw := hM.m3.2.2 _ hw
    have k53 : ∀ b : Bool, b = hasPg S k (i + 1) → Ex l w true mX9_part d Q 53 [some (vr 62), some (vi (nI k)), some (vi (b2i (hasPg S k i))), some (vi (nI i))] [vi (b2i b)] h 0 0 := by
      intro b hb
      have hh := ih (i + 1) (by omega)
      rw [← hb, ← nI_1] at hh
      refine go ok_X9_part ?_
      exact hh
    refine Ex.lay (fun hy => ?_)
    refine go ok_X9_part ?_
    refine asAnd ?_
    rw [hM.m9.1]
    refine And.intro (fun c => ?_) (fun c => ?_)
    · exact absurd c (nI_ge hlt (by omega))
    · refine go ok_X9_part ?_
      refine And.intro (fun c2 => ?_) (fun c2 => ?_)
      · refine go ok_X9_part ?_
        exact k53 true (by rw [hasPg, b2i_ne.mp c2]; rfl)
      · have c2' := b2i_eq.mp c2
        refine go ok_X9_part ?_
        refine And.intro (ix83 hy rfl (by omega)) ?_
        rw [nI_clamp (by omega), hM.m9.2.2 i hlt]
        refine And.intro (ix64 hy rfl (by omega)) ?_
        refine And.intro (ix64 hy rfl (by omega)) ?_
        rw [nI_clamp (n := gN (gWh S) i) (by omega), dw.1, nI_clamp (n := k) (by omega), dk.1]
        refine asAnd ?_
        rw [nI_eq (by omega) (by omega)]
        refine And.intro (fun c3 => ?_) (fun c3 => ?_)
        · refine go ok_X9_part ?_
          exact k53 false (by rw [hasPg, c2', decide_eq_false c3]; rfl)
        · refine go ok_X9_part ?_
          exact k53 true (by rw [hasPg, decide_eq_true c3, Bool.or_true])
theorem r_part (hM : RM S h) (hv : Inv S) {x : Int32} (q : ∀ h', RM (partF S x).2 h' → OM h h' → Q (some (vi (partF S x).1)) h') : Con l w true (d + 3) HX9_part [vr 62, vi x] h 0 0 Q := by
  have hD := hM.m3.2.1
  have h8 := hM.m9.2.1
  refine Con.of ok_X9_part (nones := [none, none]) rfl (by simp) ?_
  refine Ex.lay (fun hy => ?_)
  refine go ok_X9_part ?_
  refine Cal.z (k_isView hM.m3 (fun e => ?_) (fun k hk ek _ e => ?_))
  · refine go ok_X9_part ?_
    refine And.intro (fun c => absurd c (by decide)) (fun c => ?_)
    refine go ok_X9_part ?_
    rw [partF, e] at q
    exact q _ hM (OM.rf h)
  · subst ek
    rw [partF, e] at q
    dsimp only at q
    have dk := hM.m3.2.2 k hk
    refine go ok_X9_part ?_
    refine And.intro (fun c => ?_) (fun c => absurd c (by decide))
    refine go ok_X9_part ?_
    refine r_part_loop hM hv hk ?_ (gWh S).length 0 (by omega)
    have k73 : ¬ (kdD (gD S) k = 0 ∧ hasPg S k (gWh S).length = false) → Ex l w true mX9_part (d + 3) Q 73 [some (vr 62), some (vi (nI k)), some (vi (b2i (hasPg S k (gWh S).length))), some (vi (nI (gWh S).length))] [] h 0 0 := by
      intro c
      rw [if_neg c] at q
      refine go ok_X9_part ?_
      exact q _ hM (OM.rf h)
    refine go ok_X9_part ?_
    refine And.intro (ix66 hy rfl (by omega)) ?_
    rw [nI_clamp (by omega), dk.2.2.1]
    refine And.intro (fun c2 => ?_) (fun c2 => ?_)
    · exact k73 (fun z => c2 z.1)
    · refine go ok_X9_part ?_
      refine And.intro (fun c3 => ?_) (fun c3 => ?_)
      · rw [if_pos ⟨c2, b2i_eq.mp c3⟩] at q
        refine go ok_X9_part ?_
        refine asAnd ?_
        rw [hM.m9.1]
        refine And.intro (fun c4 => ?_) (fun c4 => ?_)
        · replace c4 : ¬ nI (gWh S).length = nI 8 := c4
          rw [nI_eq (by omega) (by omega)] at c4
          rw [if_neg c4] at q
          refine go ok_X9_part ?_
          refine And.intro (jx83 hy hM.m9.1 (by omega)) ?_
          rw [hM.m9.1, nI_clamp (by omega)]
          refine Qv (q _ ?_ ?_) ?_
          · refine ⟨hM.1, hM.m2, hM.m3, hM.hs, hM.m5, hM.m6, hM.fl, hM.m8, ?_, ?_, ?_⟩
            · show hI h 677 62 + 1 = nI (gWh S ++ [k]).length
              rw [hM.m9.1, nI_1, List.length_append]; rfl
            · show (gWh S ++ [k]).length ≤ 8
              rw [List.length_append, List.length_singleton]; omega
            · exact rowIs_snoc hM.m9.2.2 (by rw [yn83 hy]; omega)
          · exact ((OM.rf h).t (by decide)).s (by decide)
          · show nI ((gWh S).length + 1) = hI h 677 62 + 1
            rw [hM.m9.1, nI_1]
        · replace c4 : nI (gWh S).length = nI 8 := c4
          rw [nI_eq (by omega) (by omega)] at c4
          rw [if_pos c4] at q
          refine go ok_X9_part ?_
          exact q _ hM (OM.rf h)
      · exact k73 (fun z => by rw [z.2] at c3; exact c3 rfl)
theorem r_wipe (hM : RM S h) (q : ∀ h', RM (wipeF S).2 h' → OM h h' → Q (some (vi (wipeF S).1)) h') : Con l w true d HX9_wipe [vr 62] h 0 0 Q := by
  refine Con.of ok_X9_wipe (nones := [none]) rfl (by simp) ?_
  refine go ok_X9_wipe ?_
  refine Qv (q _ ?_ ?_) ?_
  · exact ⟨hM.1, hM.m2, hM.m3, hM.hs, hM.m5, hM.m6, hM.fl, hM.m8, rfl, Nat.zero_le _, rowIs_nil _⟩
  · exact (OM.rf h).s (by decide)
  · exact hM.m9.1.symm
end R10

