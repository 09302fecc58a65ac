/-! ===== the class: answers that change nothing ===== -/
section C5
variable {l : Launch} {w : WD} {d : Nat} {h : AH} {Q : Option AV → AH → Prop} {S : SG} {G : GH} {p : Nat}
theorem c_fault (hc : RC S G h) (q : Q (some (vi (gFl S))) h) : Con l w true d HX8_fault [vr 32] h 0 0 Q := by
  refine Con.of ok_X8_fault (nones := []) rfl (by simp) ?_
  refine go ok_X8_fault ?_
  exact Qv q hc.2.2.1.symm
theorem c_alike (hc : RC S G h) (hv : Inv S) {x y : Int32} (q : Q (some (vi (alikeA S x y))) h) : Con l w true (d + 5) HX8_alike [vr 32, vi x, vi y] h 0 0 Q := by
  refine Con.of ok_X8_alike (nones := [none, none]) rfl (by simp) ?_
  refine go ok_X8_alike ?_
  refine Cal.z (k_viewAt hc (fun e => ?_) (fun k hk ek hvk e hn => ?_))
  · refine go ok_X8_alike ?_
    refine Cal.z (k_viewAt hc (fun e2 => ?_) (fun j hj ej hvj e2 hn2 => ?_))
    · refine go ok_X8_alike ?_
      refine And.intro (fun c => ?_) (fun c => absurd c (by decide))
      refine go ok_X8_alike ?_
      rw [alikeA, e] at q
      exact q
    · refine go ok_X8_alike ?_
      refine And.intro (fun c => ?_) (fun c => absurd c (by decide))
      refine go ok_X8_alike ?_
      rw [alikeA, e] at q
      exact q
  · subst ek
    refine go ok_X8_alike ?_
    refine Cal.z (k_viewAt hc (fun e2 => ?_) (fun j hj ej hvj e2 hn2 => ?_))
    · refine go ok_X8_alike ?_
      refine And.intro (fun c => absurd c hn) (fun _ => ?_)
      refine go ok_X8_alike ?_
      refine And.intro (fun c => absurd c (by decide)) (fun c => ?_)
      refine go ok_X8_alike ?_
      rw [alikeA, e, e2] at q
      exact q
    · subst ej
      rw [alikeA, e, e2] at q
      dsimp only at q
      refine go ok_X8_alike ?_
      refine And.intro (fun c => absurd c hn) (fun _ => ?_)
      refine go ok_X8_alike ?_
      refine And.intro (fun _ => ?_) (fun c => absurd c hn2)
      refine go ok_X8_alike ?_
      refine And.intro hc.rt.1 ?_
      refine Cal.z (c_sameForm hc hv hk hj hvk hvj ?_)
      refine go ok_X8_alike ?_
      refine And.intro (fun c => ?_) (fun c => ?_)
      · rw [b2i_eq.mp c] at q
        refine go ok_X8_alike ?_
        exact q
      · rw [b2i_ne.mp c] at q
        refine go ok_X8_alike ?_
        exact q
theorem c_sure (hc : RC S G h) (hv : Inv S) {x t : Int32} (q : Q (some (vi (sureA S x t))) h) : Con l w true (d + 5) HX8_sure [vr 32, vi x, vi t] h 0 0 Q := by
  refine Con.of ok_X8_sure (nones := [none]) rfl (by simp) ?_
  refine go ok_X8_sure ?_
  refine Cal.z (k_pageAt hc (fun e => ?_) (fun k hk ek e hn => ?_))
  · rw [sureA, e] at q
    refine go ok_X8_sure ?_
    refine And.intro (fun c => absurd c (by decide)) (fun c => ?_)
    refine go ok_X8_sure ?_
    exact q
  · subst ek
    rw [sureA, e] at q
    dsimp only at q
    refine go ok_X8_sure ?_
    refine And.intro (fun _ => ?_) (fun c => absurd c hn)
    refine go ok_X8_sure ?_
    refine Cal.z (k_isHour (S := S) hc.now (fun c => ?_) (fun c => ?_))
    · rw [if_pos c] at q
      refine go ok_X8_sure ?_
      refine And.intro (fun c2 => absurd c2 (by decide)) (fun c2 => ?_)
      refine go ok_X8_sure ?_
      refine And.intro (hc.pv hk) ?_
      refine Cal.z (c_sureAt hc hv hk ?_)
      refine go ok_X8_sure ?_
      exact q
    · rw [if_neg c] at q
      refine go ok_X8_sure ?_
      refine And.intro (fun c2 => ?_) (fun c2 => absurd c2 (by decide))
      refine go ok_X8_sure ?_
      exact q
theorem RC.home (hc : RC S G h) {k : Nat} (hk : k < (gD S).length) : hC h (gN (gLa G) k) = 3 ∧ hR h 129 (gN (gLa G) k) = gN (gPa G) (pgD (gD S) k) := ⟨(hc.lks.2 k hk).1.1, (hc.lks.2 k hk).2.2.1⟩
theorem c_state (hc : RC S G h) (hv : Inv S) {x t : Int32} (q : Q (some (vi (stateA S x t))) h) : Con l w true (d + 6) HX8_state [vr 32, vi x, vi t] h 0 0 Q := by
  refine Con.of ok_X8_state (nones := [none]) rfl (by simp) ?_
  refine go ok_X8_state ?_
  refine Cal.z (k_viewAt hc (fun e => ?_) (fun k hk ek hvk e hn => ?_))
  · rw [stateA, e] at q
    refine go ok_X8_state ?_
    refine And.intro (fun c => absurd c (by decide)) (fun c => ?_)
    refine go ok_X8_state ?_
    exact q
  · subst ek
    rw [stateA, e] at q
    dsimp only at q
    obtain ⟨t3, th⟩ := hc.home hk
    refine go ok_X8_state ?_
    refine And.intro (fun _ => ?_) (fun c => absurd c hn)
    refine go ok_X8_state ?_
    refine Cal.z (k_isHour (S := S) hc.now (fun c => ?_) (fun c => ?_))
    · rw [if_pos c] at q
      refine go ok_X8_state ?_
      refine And.intro (fun c2 => absurd c2 (by decide)) (fun c2 => ?_)
      refine go ok_X8_state ?_
      refine And.intro t3 ?_
      refine asAnd ?_
      rw [th]
      refine And.intro (hc.pv (hv.pg hk)) ?_
      refine Cal.z (c_stateAt hc hv hk hvk ?_)
      refine go ok_X8_state ?_
      exact q
    · rw [if_neg c] at q
      refine go ok_X8_state ?_
      refine And.intro (fun c2 => ?_) (fun c2 => absurd c2 (by decide))
      refine go ok_X8_state ?_
      exact q
theorem c_view (hc : RC S G h) {x y : Int32} (q : Q (some (vi (viewA S x y))) h) : Con l w true (d + 5) HX8_view [vr 32, vi x, vi y] h 0 0 Q := by
  refine Con.of ok_X8_view (nones := [none]) rfl (by simp) ?_
  refine go ok_X8_view ?_
  refine Cal.z (k_pageAt hc (fun e => ?_) (fun k hk ek e hn => ?_))
  · rw [viewA, e] at q
    refine go ok_X8_view ?_
    refine And.intro (fun c => absurd c (by decide)) (fun c => ?_)
    refine go ok_X8_view ?_
    exact q
  · subst ek
    rw [viewA, e] at q
    dsimp only at q
    obtain ⟨t4, hf⟩ := hc.fv hk
    have h150 := hf.len
    generalize vws (gD S) k = vs at hf q h150
    refine go ok_X8_view ?_
    refine And.intro (fun _ => ?_) (fun c => absurd c hn)
    refine go ok_X8_view ?_
    refine And.intro (fun c => ?_) (fun c => ?_)
    · rw [if_neg c] at q
      refine go ok_X8_view ?_
      refine And.intro (fun c2 => ?_) (fun c2 => ?_)
      · rw [show ixO vs.length y = none by unfold ixO; rw [if_pos c2]] at q
        refine go ok_X8_view ?_
        exact q
      · obtain ⟨j, hj, rfl⟩ := nI_of c2
        refine go ok_X8_view ?_
        refine And.intro t4 ?_
        refine asAnd ?_
        refine And.intro hf.1.1 ?_
        refine Cal.z (hf.size ?_)
        refine go ok_X8_view ?_
        refine asAnd ?_
        rw [nI_ltI hj (by omega)]
        refine And.intro (fun c3 => ?_) (fun c3 => ?_)
        · rw [ixO_nI c3 (by omega)] at q
          refine go ok_X8_view ?_
          refine And.intro t4 ?_
          refine asAnd ?_
          refine And.intro hf.1.1 ?_
          refine Cal.z (hf.get c3 ?_)
          refine go ok_X8_view ?_
          refine And.intro (Or.inr (hf.t3 hc c3)) ?_
          refine asAnd ?_
          refine And.intro (hf.t3 hc c3) ?_
          exact Qv q (hc.lks.2 _ (hf.2 j c3).1).2.1.symm
        · rw [ixO_out (fun ⟨i, hi, ei⟩ => by rw [nI_eq hj (by omega)] at ei; omega)] at q
          refine go ok_X8_view ?_
          exact q
    · rw [if_pos c] at q
      refine go ok_X8_view ?_
      refine And.intro t4 ?_
      refine asAnd ?_
      refine And.intro hf.1.1 ?_
      refine Cal.z (hf.size ?_)
      refine go ok_X8_view ?_
      exact q
theorem c_pieces (hc : RC S G h) {x : Int32} (q : Q (some (vl (piecesA S x))) h) : Con l w true (d + 4) HX8_pieces [vr 32, vi x] h 0 0 Q := by
  refine Con.of ok_X8_pieces (nones := [none]) rfl (by simp) ?_
  refine go ok_X8_pieces ?_
  refine Cal.z (k_lookAt hc (fun e => ?_) (fun k hk ek e hn => ?_))
  · rw [piecesA, e] at q
    refine go ok_X8_pieces ?_
    refine And.intro (fun c => absurd c (by decide)) (fun c => ?_)
    refine go ok_X8_pieces ?_
    exact q
  · subst ek
    rw [piecesA, e] at q
    refine go ok_X8_pieces ?_
    refine And.intro (fun _ => ?_) (fun c => absurd c hn)
    refine go ok_X8_pieces ?_
    refine And.intro (hc.lks.2 k hk).1.1 ?_
    exact Ql q (hc.lks.2 k hk).2.2.2.2.2.2.1.symm
theorem outT2 {x : Int32} {k : Nat} (hk : k < 2 ^ 31) (c : x.toInt < 0 ∨ (k : Int) < x.toInt) : ¬ (0 ≤ x ∧ x ≤ nI k) := outT hk c
theorem c_told (hc : RC S G h) (hv : Inv S) {y x : Int32} (q : Q (some (vi (toldA S y x))) h) : Con l w true (d + 4) HX8_told [vr 32, vi y, vi x] h 0 0 Q := by
  refine Con.of ok_X8_told (nones := [none]) rfl (by simp) ?_
  refine go ok_X8_told ?_
  refine Cal.z (k_lookAt hc (fun e => ?_) (fun k hk ek e hn => ?_))
  · rw [toldA, e] at q
    refine go ok_X8_told ?_
    refine And.intro (fun c => absurd c (by decide)) (fun c => ?_)
    refine go ok_X8_told ?_
    exact q
  · subst ek
    rw [toldA, e] at q
    dsimp only at q
    obtain ⟨⟨t1, -⟩, t2, t3, t4, t5, t6, t7, t8⟩ := hc.lks.2 k hk
    obtain ⟨⟨p1, -⟩, p2, -⟩ := hc.pgs.2.2 _ (hv.pg hk)
    refine go ok_X8_told ?_
    refine And.intro (fun _ => ?_) (fun c => absurd c hn)
    refine go ok_X8_told ?_
    refine And.intro (And.intro (fun c => ?_) (And.intro (fun c => ?_) (And.intro (fun c => ?_) (And.intro (fun c => ?_) (And.intro (fun c => ?_) (And.intro (fun c => ?_) (True.intro))))))) (fun c => ?_)
    · obtain rfl := toI c
      refine go ok_X8_told ?_
      refine And.intro t1 ?_
      refine asAnd ?_
      rw [t3]
      refine And.intro p1 ?_
      exact Qv q p2.symm
    · obtain rfl := toI c
      refine go ok_X8_told ?_
      refine And.intro t1 ?_
      exact Qv q t4.symm
    · obtain rfl := toI c
      refine go ok_X8_told ?_
      refine And.intro t1 ?_
      exact Qv q t5.symm
    · obtain rfl := toI c
      refine go ok_X8_told ?_
      refine And.intro t1 ?_
      exact Qv q t6.symm
    · obtain rfl := toI c
      replace q : Q (some (vi (if kdD (gD S) k = 3 then -1 else ons (stD (gD S) k)))) h := q
      refine go ok_X8_told ?_
      refine And.intro t1 ?_
      refine asAnd ?_
      rw [t8]
      refine And.intro (fun c3 => ?_) (fun c3 => ?_)
      · rw [if_neg (by simpa using b2i_eq.mp c3)] at q
        refine go ok_X8_told ?_
        refine And.intro t1 ?_
        refine asCal ?_
        rw [t7]
        refine Cal.z (j_bitCountL ?_)
        refine go ok_X8_told ?_
        exact q
      · rw [if_pos (by simpa using b2i_ne.mp c3)] at q
        refine go ok_X8_told ?_
        exact q
    · obtain rfl := toI c
      replace q : Q (some (vi (if kdD (gD S) k = 3 then 1 else 0))) h := q
      refine go ok_X8_told ?_
      refine And.intro t1 ?_
      refine asAnd ?_
      rw [t8]
      refine And.intro (fun c3 => ?_) (fun c3 => ?_)
      · rw [if_neg (by simpa using b2i_eq.mp c3)] at q
        refine go ok_X8_told ?_
        exact q
      · rw [if_pos (by simpa using b2i_ne.mp c3)] at q
        refine go ok_X8_told ?_
        exact q
    · have c : ¬ (0 ≤ x ∧ x ≤ 5) := outT (k := 5) (by decide) c
      rw [if_neg c] at q
      refine go ok_X8_told ?_
      exact q
theorem c_shown (hc : RC S G h) (hv : Inv S) {x t y : Int32} (q : Q (some (vi (shownA S x t y))) h) : Con l w true (d + 6) HX8_shown [vr 32, vi x, vi t, vi y] h 0 0 Q := by
  refine Con.of ok_X8_shown (nones := [none, none]) rfl (by simp) ?_
  refine go ok_X8_shown ?_
  refine Cal.z (k_pageAt hc (fun e => ?_) (fun k hk ek e hn => ?_))
  · rw [shownA, e] at q
    refine go ok_X8_shown ?_
    refine And.intro (fun c => absurd c (by decide)) (fun c => ?_)
    refine go ok_X8_shown ?_
    exact q
  · subst ek
    rw [shownA, e] at q
    dsimp only at q
    have k33 : ¬ ((0 ≤ t ∧ t ≤ gNw S) ∧ (0 ≤ y ∧ y ≤ 2)) → Ex l w true mX8_shown (d + 6) Q 33 [some (vr 32), some (vi (nI k)), some (vi t), some (vi y), some (vr (gN (gPa G) k)), none] [] h 0 0 := by
      intro c
      rw [if_neg c] at q
      refine go ok_X8_shown ?_
      exact q
    refine go ok_X8_shown ?_
    refine And.intro (fun _ => ?_) (fun c => absurd c hn)
    refine go ok_X8_shown ?_
    refine Cal.z (k_isHour (S := S) hc.now (fun c => ?_) (fun c => ?_))
    · refine go ok_X8_shown ?_
      refine And.intro (fun c2 => absurd c2 (by decide)) (fun c2 => ?_)
      refine go ok_X8_shown ?_
      refine And.intro (fun c3 => ?_) (fun c3 => ?_)
      · exact k33 (fun z => absurd z.2.1 (by simpa using c3))
      · refine go ok_X8_shown ?_
        refine And.intro (fun c4 => ?_) (fun c4 => ?_)
        · rw [if_pos ⟨c, by simpa using c3, c4⟩] at q
          refine go ok_X8_shown ?_
          refine And.intro (hc.pv hk) ?_
          refine Cal.z (c_lastUpTo hc hk ?_)
          cases e2 : shnR (gD S) (vws (gD S) k) t (vws (gD S) k).length with
          | none =>
            rw [e2] at q
            refine go ok_X8_shown ?_
            refine And.intro (fun c5 => absurd rfl c5) (fun _ => ?_)
            refine go ok_X8_shown ?_
            exact q
          | some f =>
            rw [e2] at q
            dsimp only at q
            obtain ⟨j, hj, ej⟩ := shnR_in _ f e2
            obtain ⟨f1, f2, f3⟩ := vws_in hj
            rw [← ej] at f1 f2 f3
            obtain ⟨⟨t1, -⟩, t2, -, t4, -⟩ := hc.lks.2 f f1
            refine go ok_X8_shown ?_
            refine And.intro (fun _ => ?_) (fun c5 => absurd c5 (hc.la0 f1))
            refine go ok_X8_shown ?_
            refine And.intro (fun c5 => ?_) (fun c5 => ?_)
            · rw [if_neg c5] at q
              refine go ok_X8_shown ?_
              refine And.intro (fun c6 => ?_) (fun c6 => ?_)
              · rw [if_neg c6] at q
                refine go ok_X8_shown ?_
                refine And.intro (hc.pv hk) ?_
                refine asCal ?_
                rw [← f2]
                refine Cal.z (c_stateAt hc hv f1 f3 ?_)
                refine go ok_X8_shown ?_
                exact q
              · rw [if_pos c6] at q
                refine go ok_X8_shown ?_
                refine And.intro t1 ?_
                show Q (some (vi (t - hI h 130 (gN (gLa G) f)))) h
                rw [t4]
                exact q
            · rw [if_pos c5] at q
              refine go ok_X8_shown ?_
              refine And.intro t1 ?_
              exact Qv q t2.symm
        · exact k33 (fun z => c4 z.2.2)
    · refine go ok_X8_shown ?_
      refine And.intro (fun c2 => ?_) (fun c2 => absurd c2 (by decide))
      exact k33 (fun z => c z.1)
theorem c_changeRate (hc : RC S G h) (hv : Inv S) (hp : p < (gDs S).length) (q : Q (some (vi (rateN (gD S) (gCl S) (vws (gD S) p)))) h) : Con l w true (d + 4) HX2_changeRate [vr (gN (gPa G) p), vr (hR h 583 32)] h 0 0 Q := by
  obtain ⟨t4, hf⟩ := hc.fv hp
  have h150 := hf.len
  have hsp := fun j hj => hv.hspan (p := p) j hj
  have hhn : ∀ i, i < (vws (gD S) p).length → hrD (gD S) (gN (vws (gD S) p) i) = nI (hN (gD S) (gN (vws (gD S) p) i)) ∧ hN (gD S) (gN (vws (gD S) p) i) ≤ 3000 := fun i hi => ⟨(hv.hn (vws_in hi).1).1, (hv.hn (vws_in hi).1).2.1⟩
  generalize vws (gD S) p = vs at hf q h150 hsp hhn
  have lk : ∀ i, i < vs.length → hI h 130 (gN (gLa G) (gN vs i)) = hrD (gD S) (gN vs i) := fun i hi => (hc.lks.2 _ (hf.2 i hi).1).2.2.2.1
  unfold rateN at q
  refine Con.of ok_X2_changeRate (nones := [none, none, none]) rfl (by simp) ?_
  refine go ok_X2_changeRate ?_
  refine And.intro t4 ?_
  refine asAnd ?_
  refine And.intro hf.1.1 ?_
  refine Cal.z (hf.size ?_)
  refine go ok_X2_changeRate ?_
  refine And.intro (fun c => ?_) (fun c => ?_)
  · replace c : nI 2 ≤ nI vs.length := c
    rw [nI_leI (by omega) (by omega)] at c
    obtain ⟨a1, a2⟩ := hhn (vs.length - 1) (by omega)
    obtain ⟨b1, b2⟩ := hhn 0 (by omega)
    have sp := hsp (vs.length - 1) (by omega)
    rw [if_neg (fun z => by
      rcases z with z | z
      · omega
      · rw [a1, b1, nI_eq (by omega) (by omega)] at z; omega), a1, b1, i32_sub_nI (by omega)] at q
    generalize hspn : hN (gD S) (gN vs (vs.length - 1)) - hN (gD S) (gN vs 0) = spn at q
    have lp : ∀ n i, i + n + 1 = vs.length → Ex l w true mX2_changeRate (d + 4) Q 64 [some (vr (gN (gPa G) p)), some (vr (hR h 583 32)), some (vi (nI spn)), some (vi (chgR (gD S) (gCl S) vs i)), some (vi (nI (i + 1)))] [] h 0 0 := by
      intro n
      induction n with
      | zero =>
        intro i hi
        have : i = vs.length - 1 := by omega
        subst this
        refine go ok_X2_changeRate ?_
        refine And.intro t4 ?_
        refine asAnd ?_
        refine And.intro hf.1.1 ?_
        refine Cal.z (hf.size ?_)
        refine go ok_X2_changeRate ?_
        refine asAnd ?_
        rw [nI_leI (by omega) (by omega)]
        refine And.intro (fun c2 => ?_) (fun c2 => ?_)
        · refine go ok_X2_changeRate ?_
          refine asAnd ?_
          rw [show (0 : Int32) = nI 0 from rfl, nI_ltI (by omega) (by omega)]
          refine And.intro (fun c3 => ?_) (fun c3 => ?_)
          · refine go ok_X2_changeRate ?_
            refine And.intro (fun z => ?_) ?_
            · replace z : nI spn = nI 0 := z
              rw [nI_eq (by omega) (by omega)] at z
              omega
            · exact q
          · omega
        · omega
      | succ n ih =>
        intro i hi
        have hh := ih (i + 1) (by omega)
        rw [chgR, ← nI_1 (i + 1)] at hh
        obtain ⟨l1, v1⟩ := hf.2 i (by omega)
        obtain ⟨l2, v2⟩ := hf.2 (i + 1) (by omega)
        refine go ok_X2_changeRate ?_
        refine And.intro t4 ?_
        refine asAnd ?_
        refine And.intro hf.1.1 ?_
        refine Cal.z (hf.size ?_)
        refine go ok_X2_changeRate ?_
        refine asAnd ?_
        rw [nI_leI (by omega) (by omega)]
        refine And.intro (fun c2 => ?_) (fun c2 => ?_)
        · omega
        · refine go ok_X2_changeRate ?_
          refine And.intro t4 ?_
          refine asAnd ?_
          refine And.intro hf.1.1 ?_
          refine asCal ?_
          rw [nI_prd (n := i + 1) (by omega), show i + 1 - 1 = i from rfl]
          refine Cal.z (hf.get (i := i) (by omega) ?_)
          refine go ok_X2_changeRate ?_
          refine And.intro (Or.inr (hf.t3 hc (by omega))) ?_
          refine asAnd ?_
          refine And.intro t4 ?_
          refine asAnd ?_
          refine And.intro hf.1.1 ?_
          refine Cal.z (hf.get (i := i + 1) (by omega) ?_)
          refine go ok_X2_changeRate ?_
          refine And.intro (Or.inr (hf.t3 hc (by omega))) ?_
          refine asAnd ?_
          refine And.intro hc.rt.1 ?_
          refine Cal.z (c_sameForm hc hv l1 l2 v1 v2 ?_)
          refine go ok_X2_changeRate ?_
          refine And.intro (fun c3 => ?_) (fun c3 => ?_)
          · rw [b2i_eq.mp c3] at hh
            refine go ok_X2_changeRate ?_
            exact hh
          · rw [b2i_ne.mp c3] at hh
            refine go ok_X2_changeRate ?_
            exact hh
    refine go ok_X2_changeRate ?_
    refine And.intro t4 ?_
    refine asAnd ?_
    refine And.intro t4 ?_
    refine asAnd ?_
    refine And.intro hf.1.1 ?_
    refine Cal.z (hf.size ?_)
    refine go ok_X2_changeRate ?_
    refine And.intro hf.1.1 ?_
    refine asCal ?_
    rw [nI_prd (by omega)]
    refine Cal.z (hf.get (i := vs.length - 1) (by omega) ?_)
    refine go ok_X2_changeRate ?_
    refine And.intro (Or.inr (hf.t3 hc (by omega))) ?_
    refine asAnd ?_
    refine And.intro (hf.t3 hc (by omega)) ?_
    refine asAnd ?_
    refine And.intro t4 ?_
    refine asAnd ?_
    refine And.intro hf.1.1 ?_
    refine Cal.z (hf.get (i := 0) (by omega) ?_)
    refine go ok_X2_changeRate ?_
    refine And.intro (Or.inr (hf.t3 hc (by omega))) ?_
    refine asAnd ?_
    refine And.intro (hf.t3 hc (by omega)) ?_
    rw [lk _ (by omega), lk _ (by omega), a1, b1]
    have hh := lp (vs.length - 1) 0 (by omega)
    rw [← hspn, ← i32_sub_nI (by omega)] at hh
    exact hh
  · replace c : ¬ nI 2 ≤ nI vs.length := c
    rw [nI_leI (by omega) (by omega)] at c
    rw [if_pos (Or.inl (by omega))] at q
    refine go ok_X2_changeRate ?_
    exact q
theorem c_rate (hc : RC S G h) (hv : Inv S) {x : Int32} (q : Q (some (vi (rateA S x))) h) : Con l w true (d + 5) HX8_rate [vr 32, vi x] h 0 0 Q := by
  refine Con.of ok_X8_rate (nones := [none]) rfl (by simp) ?_
  refine go ok_X8_rate ?_
  refine Cal.z (k_pageAt hc (fun e => ?_) (fun k hk ek e hn => ?_))
  · rw [rateA, e] at q
    refine go ok_X8_rate ?_
    refine And.intro (fun c => absurd c (by decide)) (fun c => ?_)
    refine go ok_X8_rate ?_
    exact q
  · subst ek
    rw [rateA, e] at q
    refine go ok_X8_rate ?_
    refine And.intro (fun _ => ?_) (fun c => absurd c hn)
    refine go ok_X8_rate ?_
    refine And.intro (hc.pv hk) ?_
    refine Cal.z (c_changeRate hc hv hk ?_)
    refine go ok_X8_rate ?_
    exact q
end C5

