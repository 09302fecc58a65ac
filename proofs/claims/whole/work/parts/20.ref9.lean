/-! ===== the reference: take, told, pieces, view, count, right ===== -/
def fltR (wh : List Nat) (k : Nat) : Nat → List Nat
  | 0 => []
  | i + 1 => if gN wh i = k then fltR wh k i else fltR wh k i ++ [gN wh i]
theorem fltR_le (wh : List Nat) (k : Nat) : ∀ i, (fltR wh k i).length ≤ i
  | 0 => Nat.le_refl _
  | i + 1 => by
    have := fltR_le wh k i
    rw [fltR]
    split
    · omega
    · rw [List.length_append, List.length_singleton]; omega
theorem fltR_take (wh : List Nat) (k : Nat) : ∀ i, i ≤ wh.length → fltR wh k i = (wh.take i).filter (fun j => !decide (j = k))
  | 0, _ => by simp [fltR]
  | i + 1, hi => by
    have hlt : i < wh.length := by omega
    rw [fltR, fltR_take wh k i (by omega), List.take_succ_eq_append_getElem hlt, List.filter_append]
    have e : gN wh i = wh[i] := by unfold gN; rw [List.getD_eq_getElem?_getD, List.getElem?_eq_getElem hlt]; rfl
    rw [e]
    by_cases c : wh[i] = k
    · rw [if_pos c]; simp [c]
    · rw [if_neg c]; simp [c]
theorem fltR_all (wh : List Nat) (k : Nat) : fltR wh k wh.length = wh.filter (fun j => !decide (j = k)) := by rw [fltR_take wh k _ (Nat.le_refl _), List.take_length]
theorem tI_self (h : AH) (a : Nat) : tI h a (aI h a) = h := by
  unfold tI
  rw [up1_self]
  rfl
theorem tI_tI (h : AH) (a : Nat) (v v' : List Int32) : tI (tI h a v) a v' = tI h a v' := by
  unfold tI
  simp only [hC, hI, hL, hR, aI, aL, aR, hZ]
  rw [up1_up1]
theorem lkD_set {D : List LK} {k i : Nat} {x : LK} (hk : k < D.length) : lkD (D.set k x) i = if i = k then x else lkD D i := by
  unfold lkD
  rw [getD_set]
  by_cases c : i = k
  · rw [if_pos ⟨c, hk⟩, if_pos c]
  · rw [if_neg (fun z => c z.1), if_neg c]
section R9
variable {l : Launch} {w : WD} {d : Nat} {h : AH} {Q : Option AV → AH → Prop} {S : SG}
theorem r_take_loop {wh : List Nat} {k : Nat} (hk : k < 100) (h8 : wh.length ≤ 8) (hwh : ∀ i, i < wh.length → gN wh i < 100) (h0 : hI h 677 62 = nI wh.length)
    (q : ∀ r, r.length = 8 → rowIs r (fltR wh k wh.length) → Q (some (vi 1)) (sI (tI h 83 r) 677 62 (nI (fltR wh k wh.length).length))) : ∀ n i r, i + n = wh.length → r.length = 8 → rowIs r (fltR wh k i) → (∀ j, i ≤ j → j < wh.length → r.getD j 0 = nI (gN wh j)) →
    Ex l w true mX9_take d Q 44 [some (vr 62), some (vi (nI k)), some (vi (nI (fltR wh k i).length)), some (vi (nI i))] [] (tI h 83 r) 0 0 := by
  intro n
  induction n with
  | zero =>
    intro i r hi hr hr1 hr2
    have : i = wh.length := by omega
    subst this
    refine go ok_X9_take ?_
    refine asAnd ?_
    rw [show hI (tI h 83 r) 677 62 = nI wh.length from h0]
    refine And.intro (fun c => ?_) (fun c => ?_)
    · refine go ok_X9_take ?_
      exact q r hr hr1
    · exact absurd (nI_le (Nat.le_refl _) (by omega)) c
  | succ n ih =>
    intro i r hi hr hr1 hr2
    have hlt : i < wh.length := by omega
    have hle := fltR_le wh k i
    have ei : (nI i).toNatClampNeg = i := nI_clamp (by omega)
    have en : (nI (fltR wh k i).length).toNatClampNeg = (fltR wh k i).length := nI_clamp (by omega)
    refine Ex.lay (fun hy => ?_)
    refine go ok_X9_take ?_
    refine asAnd ?_
    rw [show hI (tI h 83 r) 677 62 = nI wh.length from h0]
    refine And.intro (fun c => ?_) (fun c => ?_)
    · exact absurd c (nI_ge hlt (by omega))
    · refine go ok_X9_take ?_
      refine And.intro (ix83 hy rfl (by omega)) ?_
      rw [show aI (tI h 83 r) 83 = r from rfl, ei, hr2 i (by omega) hlt]
      refine And.intro (fun c2 => ?_) (fun c2 => ?_)
      · rw [nI_eq (by have := hwh i hlt; omega) (by omega)] at c2
        refine go ok_X9_take ?_
        have e : fltR wh k (i + 1) = fltR wh k i := by rw [fltR, if_pos c2]
        have hh := ih (i + 1) r (by omega) hr (by rw [e]; exact hr1) (fun j h1 h2 => hr2 j (by omega) h2)
        rw [e, ← nI_1] at hh
        exact hh
      · rw [nI_eq (by have := hwh i hlt; omega) (by omega)] at c2
        have e : fltR wh k (i + 1) = fltR wh k i ++ [gN wh i] := by rw [fltR, if_neg c2]
        have hh := ih (i + 1) (r.set (fltR wh k i).length (nI (gN wh i))) (by omega) (by rw [List.length_set]; exact hr) (by rw [e]; exact rowIs_snoc hr1 (by omega)) (fun j h1 h2 => by rw [getD_set, if_neg (by omega)]; exact hr2 j (by omega) h2)
        rw [e, List.length_append, List.length_singleton, ← nI_1, ← nI_1] at hh
        refine go ok_X9_take ?_
        refine And.intro (ix83 hy rfl (by omega)) ?_
        refine asAnd ?_
        refine And.intro (jx83 hy rfl (by omega)) ?_
        rw [show aI (tI h 83 r) 83 = r from rfl, ei, en, hr2 i (by omega) hlt, tI_tI]
        refine go ok_X9_take ?_
        exact hh
theorem r_take (hM : RM S h) (hv : Inv S) {x : Int32} (q : ∀ h', RM (takeF S x).2 h' → OM h h' → Q (some (vi (takeF S x).1)) h') : Con l w true (d + 2) HX9_take [vr 62, vi x] h 0 0 Q := by
  have hD := hM.m3.2.1
  refine Con.of ok_X9_take (nones := [none, none]) rfl (by simp) ?_
  refine Ex.lay (fun hy => ?_)
  refine go ok_X9_take ?_
  refine Cal.z (k_noLook hM.m3 (fun e => ?_) (fun k hk ek e => ?_))
  · refine go ok_X9_take ?_
    refine And.intro (fun c => absurd c (by decide)) (fun c => ?_)
    refine go ok_X9_take ?_
    rw [takeF, e] at q
    exact q _ hM (OM.rf h)
  · subst ek
    rw [takeF, e] at q
    dsimp only at q
    have dk := hM.m3.2.2 k hk
    have ec : (nI k).toNatClampNeg = k := nI_clamp (by omega)
    refine go ok_X9_take ?_
    refine And.intro (fun c => ?_) (fun c => absurd c (by decide))
    refine go ok_X9_take ?_
    refine And.intro (ix66 hy rfl (by omega)) ?_
    rw [ec, dk.2.2.1]
    refine And.intro (fun c2 => ?_) (fun c2 => ?_)
    · rw [if_neg c2] at q
      refine go ok_X9_take ?_
      refine And.intro (jx66 hy rfl (by omega)) ?_
      refine asAnd ?_
      refine And.intro (ix67 hy.ti rfl (by omega)) ?_
      rw [ec, show aL (tI h 66 ((aI h 66).set k 3)) 67 = aL h 67 from rfl]
      have hh := r_take_loop (l := l) (w := w) (d := d + 2) (Q := Q) (wh := gWh S) (k := k) (h := tL (tI h 66 ((aI h 66).set k 3)) 67 ((aL h 67).set k 0)) (by omega) hM.m9.2.1 (fun i hi => by have := hv.wh hi; omega) hM.m9.1 (fun r hr hrow => ?_) (gWh S).length 0 (aI h 83) (by omega) (yn83 hy) (rowIs_nil _) (fun j _ h2 => hM.m9.2.2 j h2)
      · rw [show tI (tL (tI h 66 ((aI h 66).set k 3)) 67 ((aL h 67).set k 0)) 83 (aI h 83) = tL (tI h 66 ((aI h 66).set k 3)) 67 ((aL h 67).set k 0) from tI_self _ 83] at hh
        exact hh
      · rw [fltR_all] at hrow ⊢
        have hwl : ((gWh S).filter (fun j => !decide (j = k))).length ≤ 8 := Nat.le_trans (List.length_filter_le _ _) hM.m9.2.1
        refine q _ ?_ ?_
        · refine ⟨hM.1, hM.m2, ⟨?_, ?_, fun i hi => ?_⟩, hM.hs, hM.m5, hM.m6, hM.fl, hM.m8, rfl, hwl, hrow⟩
          · show hI h 643 62 = nI (holeD (gD S) k).length
            rw [holeD, List.length_set]; exact hM.m3.1
          · show (holeD (gD S) k).length ≤ 100
            rw [holeD, List.length_set]; exact hD
          · replace hi : i < (holeD (gD S) k).length := hi
            rw [holeD, List.length_set] at hi
            have di := hM.m3.2.2 i hi
            show (aI h 64).getD i 0 = nI (lkD (holeD (gD S) k) i).1 ∧ (aI h 65).getD i 0 = (lkD (holeD (gD S) k) i).2.1 ∧ ((aI h 66).set k 3).getD i 0 = (lkD (holeD (gD S) k) i).2.2.1 ∧ ((aL h 67).set k 0).getD i 0 = (lkD (holeD (gD S) k) i).2.2.2.1 ∧ (aI h 68).getD i 0 = (lkD (holeD (gD S) k) i).2.2.2.2 ∧ (lkD (holeD (gD S) k) i).1 < 12
            rw [holeD, lkD_set hk, getD_set, getD_set, yn66 hy, yn67 hy]
            by_cases c : i = k
            · subst c
              rw [if_pos rfl, if_pos ⟨rfl, by omega⟩, if_pos ⟨rfl, by omega⟩]
              exact ⟨di.1, di.2.1, rfl, rfl, di.2.2.2.2⟩
            · rw [if_neg c, if_neg (fun z => c z.1), if_neg (fun z => c z.1)]
              exact di
        · exact ((((OM.rf h).t (by decide)).tl (by decide)).t (by decide)).s (by decide)
    · rw [if_pos c2] at q
      refine go ok_X9_take ?_
      exact q _ hM (OM.rf h)
theorem r_told (hM : RM S h) {y x : Int32} (q : Q (some (vi (toldA S y x))) h) : Con l w true (d + 2) HX9_told [vr 62, vi y, vi x] h 0 0 Q := by
  have hD := hM.m3.2.1
  refine Con.of ok_X9_told (nones := [none]) rfl (by simp) ?_
  refine Ex.lay (fun hy => ?_)
  refine go ok_X9_told ?_
  refine Cal.z (k_noLook hM.m3 (fun e => ?_) (fun k hk ek e => ?_))
  · refine go ok_X9_told ?_
    refine And.intro (fun c => absurd c (by decide)) (fun c => ?_)
    refine go ok_X9_told ?_
    rw [toldA, e] at q
    exact q
  · subst ek
    rw [toldA, e] at q
    dsimp only at q
    have dk := hM.m3.2.2 k hk
    have ec : (nI k).toNatClampNeg = k := nI_clamp (by omega)
    refine go ok_X9_told ?_
    refine And.intro (fun c => ?_) (fun c => absurd c (by decide))
    refine go ok_X9_told ?_
    refine Cal.z (k_in (lo := 0) (hi := 5) rfl rfl (rfl) (fun c => ?_) (fun c => ?_))
    · rw [if_pos c] at q
      have c0 := c
      refine go ok_X9_told ?_
      refine And.intro (fun c2 => ?_) (fun c2 => absurd c2 (by decide))
      have k43 : ∀ b : Bool, b = decide (kdD (gD S) k = 3) → Ex l w true mX9_told (d + 2) Q 43 [some (vr 62), some (vi (nI k)), some (vi x), none] [vi (b2i b)] h 0 0 := by
        intro b hb
        refine go ok_X9_told ?_
        refine And.intro (And.intro (fun c => ?_) (And.intro (fun c => ?_) (And.intro (fun c => ?_) (And.intro (fun c => ?_) (And.intro (fun c => ?_) (True.intro)))))) (fun c => ?_)
        · obtain rfl := toI c
          refine go ok_X9_told ?_
          refine And.intro (ix64 hy rfl (by omega)) ?_
          rw [ec, dk.1]
          exact q
        · obtain rfl := toI c
          refine go ok_X9_told ?_
          refine And.intro (ix65 hy rfl (by omega)) ?_
          rw [ec, dk.2.1]
          exact q
        · obtain rfl := toI c
          replace q : Q (some (vi (if kdD (gD S) k = 3 then -1 else kdD (gD S) k))) h := q
          refine go ok_X9_told ?_
          refine And.intro (fun c3 => ?_) (fun c3 => ?_)
          · rw [if_neg (by rw [hb] at c3; simpa using b2i_eq.mp c3)] at q
            refine go ok_X9_told ?_
            refine And.intro (ix66 hy rfl (by omega)) ?_
            rw [ec, dk.2.2.1]
            exact q
          · rw [if_pos (by rw [hb] at c3; simpa using b2i_ne.mp c3)] at q
            refine go ok_X9_told ?_
            exact q
        · obtain rfl := toI c
          replace q : Q (some (vi (if kdD (gD S) k = 3 then -1 else dtD (gD S) k))) h := q
          refine go ok_X9_told ?_
          refine And.intro (fun c3 => ?_) (fun c3 => ?_)
          · rw [if_neg (by rw [hb] at c3; simpa using b2i_eq.mp c3)] at q
            refine go ok_X9_told ?_
            refine And.intro (ix68 hy rfl (by omega)) ?_
            rw [ec, dk.2.2.2.2.1]
            exact q
          · rw [if_pos (by rw [hb] at c3; simpa using b2i_ne.mp c3)] at q
            refine go ok_X9_told ?_
            exact q
        · obtain rfl := toI c
          replace q : Q (some (vi (if kdD (gD S) k = 3 then -1 else ons (stD (gD S) k)))) h := q
          refine go ok_X9_told ?_
          refine And.intro (fun c3 => ?_) (fun c3 => ?_)
          · rw [if_neg (by rw [hb] at c3; simpa using b2i_eq.mp c3)] at q
            refine go ok_X9_told ?_
            refine And.intro (ix67 hy rfl (by omega)) ?_
            rw [ec, dk.2.2.2.1]
            refine Cal.z (r_ones ?_)
            refine go ok_X9_told ?_
            exact q
          · rw [if_pos (by rw [hb] at c3; simpa using b2i_ne.mp c3)] at q
            refine go ok_X9_told ?_
            exact q
        · have e5 : x = 5 := by
            apply Int32.toInt_inj.mp
            have h1 := c0.1
            have h2 := c0.2
            rw [Int32.le_iff_toInt_le] at h1 h2
            simp at h1 h2 ⊢
            omega
          subst e5
          replace q : Q (some (vi (if kdD (gD S) k = 3 then 1 else 0))) h := q
          refine go ok_X9_told ?_
          refine Cal.z (r_one ?_)
          refine go ok_X9_told ?_
          refine Qv q ?_
          rw [hb]
          by_cases c3 : kdD (gD S) k = 3
          · rw [if_pos c3, decide_eq_true c3]; rfl
          · rw [if_neg c3, decide_eq_false c3]; rfl
      refine go ok_X9_told ?_
      refine And.intro (ix66 hy rfl (by omega)) ?_
      rw [ec, dk.2.2.1]
      refine And.intro (fun c3 => ?_) (fun c3 => ?_)
      · refine go ok_X9_told ?_
        exact k43 false (decide_eq_false c3).symm
      · refine go ok_X9_told ?_
        exact k43 true (decide_eq_true c3).symm
    · rw [if_neg c] at q
      refine go ok_X9_told ?_
      refine And.intro (fun c2 => absurd c2 (by decide)) (fun c2 => ?_)
      refine go ok_X9_told ?_
      exact q
theorem r_pieces (hM : RM S h) {y : Int32} (q : Q (some (vl (piecesA S y))) h) : Con l w true (d + 2) HX9_pieces [vr 62, vi y] h 0 0 Q := by
  have hD := hM.m3.2.1
  refine Con.of ok_X9_pieces (nones := []) rfl (by simp) ?_
  refine Ex.lay (fun hy => ?_)
  refine go ok_X9_pieces ?_
  refine Cal.z (k_noLook hM.m3 (fun e => ?_) (fun k hk ek e => ?_))
  · refine go ok_X9_pieces ?_
    refine And.intro (fun c => absurd c (by decide)) (fun c => ?_)
    refine go ok_X9_pieces ?_
    rw [piecesA, e] at q
    exact q
  · subst ek
    rw [piecesA, e] at q
    refine go ok_X9_pieces ?_
    refine And.intro (fun c => ?_) (fun c => absurd c (by decide))
    refine go ok_X9_pieces ?_
    refine And.intro (ix67 hy rfl (by omega)) ?_
    rw [nI_clamp (by omega), (hM.m3.2.2 k hk).2.2.2.1]
    exact q
theorem r_view (hM : RM S h) {p i : Int32} (q : ∀ h', RM S h' → OM h h' → Q (some (vi (viewA S p i))) h') : Con l w true (d + 4) HX9_view [vr 62, vi p, vi i] h 0 0 Q := by
  have hD := hM.m3.2.1
  have h12 := hM.m2.2.1
  refine Con.of ok_X9_view (nones := []) rfl (by simp) ?_
  refine go ok_X9_view ?_
  refine Cal.z (k_noPage hM.m2 (fun e => ?_) (fun k hk ek e => ?_))
  · refine go ok_X9_view ?_
    refine And.intro (fun c => absurd c (by decide)) (fun c => ?_)
    refine go ok_X9_view ?_
    rw [viewA, e] at q
    exact q _ hM (OM.rf h)
  · subst ek
    rw [viewA, e] at q
    dsimp only at q
    refine go ok_X9_view ?_
    refine And.intro (fun c => ?_) (fun c => absurd c (by decide))
    refine go ok_X9_view ?_
    refine Cal.z (r_findViews hM.m3 (by omega) (fun r hr hrow => ?_))
    have hlen := vws_len (gD S) k
    have q := q _ hM.v ((OM.rf h).v (r := r) (v := nI (vws (gD S) k).length))
    refine Ex.lay (fun hy => ?_)
    refine go ok_X9_view ?_
    refine And.intro (fun c2 => ?_) (fun c2 => ?_)
    · rw [if_neg c2] at q
      refine go ok_X9_view ?_
      refine Cal.z (k_in (lo := 0) (hi := nI (vws (gD S) k).length - 1) rfl rfl (by rw [vw_n]) (fun c => ?_) (fun c => ?_))
      · rw [ix_dec2 (by omega)] at c
        obtain ⟨j, hj, rfl⟩ := c
        rw [ixO_nI hj (by omega)] at q
        refine go ok_X9_view ?_
        refine And.intro (fun c3 => absurd c3 (by decide)) (fun c3 => ?_)
        refine go ok_X9_view ?_
        refine And.intro (ix72 hy rfl (by omega)) ?_
        rw [vw_r, nI_clamp (by omega), hrow j hj]
        exact q
      · rw [ix_dec2 (by omega)] at c
        rw [ixO_out c] at q
        refine go ok_X9_view ?_
        refine And.intro (fun c3 => ?_) (fun c3 => absurd c3 (by decide))
        refine go ok_X9_view ?_
        exact q
    · rw [if_pos c2] at q
      refine go ok_X9_view ?_
      exact q
end R9

