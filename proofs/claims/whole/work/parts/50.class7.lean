/-! ===== the class: nowhere, likeness, moved, links, more, right, houses ===== -/
section C7
variable {l : Launch} {w : WD} {d : Nat} {h : AH} {Q : Option AV → AH → Prop} {S : SG} {G : GH} {p : Nat}
def orAll (D : List LK) : Nat → Int64
  | 0 => 0
  | i + 1 => orAll D i ||| stD D i
theorem orAll_eq (hv : Inv S) : ∀ n, n ≤ (gD S).length → orAll (gD S) n = allPc (gD S) n
  | 0, _ => rfl
  | n + 1, h => by
    rw [orAll, allPc, orAll_eq hv n (by omega)]
    by_cases c : isV (gD S) n = true
    · rw [if_pos c]
    · rw [if_neg c]
      congr 1
      have h1 := (hv.lk (k := n) (by omega)).2.2.2.2.2.1
      refine h1 (fun z => c ?_)
      unfold isV
      have z : kdD (gD S) n = 0 := z
      rw [z, decide_eq_true (show n < (gD S).length by omega)]; rfl
theorem RC.lget (hc : RC S G h) {i : Nat} (hi : i < (gD S).length) (q : Q (some (vr (gN (gLa G) i))) h) : Con l w true (d + 2) HJx4a65c_get_915e3 [vr 34, vi (nI i)] h 0 0 Q := j_get hc.lk (by rw [hc.lks.1]; exact hi) q
theorem RC.lsize (hc : RC S G h) (q : Q (some (vi (nI (gD S).length))) h) : Con l w true d HJx4a65c_size_8abf5 [vr 34] h 0 0 Q := j_size hc.lk (by rw [hc.lks.1]; exact q)
theorem RC.l150 (hc : RC S G h) : (gD S).length ≤ 150 := by have := hc.lk.len; rwa [hc.lks.1] at this
theorem c_piecesEver (hc : RC S G h) (hv : Inv S) (q : Q (some (vl (allPc (gD S) (gD S).length))) h) : Con l w true (d + 3) HX8_piecesEver [vr 32] h 0 0 Q := by
  have h150 := hc.l150
  rw [← orAll_eq hv _ (Nat.le_refl _)] at q
  have lp : ∀ n i, i + n = (gD S).length → Ex l w true mX8_piecesEver (d + 3) Q 4 [some (vr 32), some (vl (orAll (gD S) i)), none, some (vi (nI i))] [] h 0 0 := by
    intro n
    induction n with
    | zero =>
      intro i hi
      have : i = (gD S).length := by omega
      subst this
      refine go ok_X8_piecesEver ?_
      refine And.intro hc.lk.1 ?_
      refine Cal.z (hc.lsize ?_)
      refine go ok_X8_piecesEver ?_
      refine asAnd ?_
      rw [nI_leI (by omega) (by omega)]
      refine And.intro (fun c => ?_) (fun c => ?_)
      · refine go ok_X8_piecesEver ?_
        exact q
      · omega
    | succ n ih =>
      intro i hi
      have hh := ih (i + 1) (by omega)
      rw [orAll, ← nI_1] at hh
      obtain ⟨⟨t1, -⟩, -, -, -, -, -, t7, -⟩ := hc.lks.2 i (by omega)
      refine go ok_X8_piecesEver ?_
      refine And.intro hc.lk.1 ?_
      refine Cal.z (hc.lsize ?_)
      refine go ok_X8_piecesEver ?_
      refine asAnd ?_
      rw [nI_leI (by omega) (by omega)]
      refine And.intro (fun c => ?_) (fun c => ?_)
      · omega
      · refine go ok_X8_piecesEver ?_
        refine And.intro hc.lk.1 ?_
        refine Cal.z (hc.lget (i := i) (by omega) ?_)
        refine go ok_X8_piecesEver ?_
        refine And.intro (Or.inr t1) ?_
        refine asAnd ?_
        refine And.intro t1 ?_
        rw [t7]
        exact hh
  refine Con.of ok_X8_piecesEver (nones := [none, none, none]) rfl (by simp) ?_
  refine go ok_X8_piecesEver ?_
  exact lp (gD S).length 0 (by omega)
/-- what the last views say -/
def saiR (S : SG) : Nat → Int64
  | 0 => 0
  | p + 1 => saiR S p ||| (match lstL (vws (gD S) p) with
    | none => 0
    | some k => stD (gD S) k)
theorem nowR_eq : ∀ n, nowR S n = allPc (gD S) (gD S).length &&& (saiR S n ^^^ (-1))
  | 0 => by
    rw [nowR, saiR]
    apply l_ext
    intro i hi
    rw [l_and, l_not _ hi, l_0, Bool.not_false, Bool.and_true]
  | n + 1 => by
    rw [nowR, saiR, nowR_eq n]
    apply l_ext
    intro i hi
    cases lstL (vws (gD S) n) with
    | none =>
      dsimp only
      rw [l_and, l_and, l_and, l_not _ hi, l_not _ hi, l_or, l_0, l_m1 i hi, Bool.or_false, Bool.and_true]
    | some k =>
      dsimp only
      rw [l_and, l_and, l_and, l_not _ hi, l_not _ hi, l_not _ hi, l_or]
      cases bl (allPc (gD S) (gD S).length) i <;> cases bl (saiR S n) i <;> cases bl (stD (gD S) k) i <;> rfl
theorem lstL_v {vs : List Nat} {b k : Nat} (hf : FV S G vs b h) (e : lstL vs = some k) : k < (gD S).length ∧ isV (gD S) k = true := by
  unfold lstL at e
  split at e
  · cases e
  · injection e with e
    subst e
    exact hf.2 _ (by omega)
theorem c_nowhere (hc : RC S G h) (hv : Inv S) (q : Q (some (vl (nowhereA S))) h) : Con l w true (d + 4) HX8_nowhere [vr 32] h 0 0 Q := by
  have h12 := hc.pgs.2.1
  rw [nowhereA, nowR_eq] at q
  have lp : ∀ n i l4, i + n = (gDs S).length → Ex l w true mX8_nowhere (d + 4) Q 4 [some (vr 32), some (vl (saiR S i)), none, some (vi (nI i)), l4] [] h 0 0 := by
    intro n
    induction n with
    | zero =>
      intro i l4 hi
      have : i = (gDs S).length := by omega
      subst this
      refine go ok_X8_nowhere ?_
      refine And.intro hc.pg.1 ?_
      refine Cal.z (hc.psize ?_)
      refine go ok_X8_nowhere ?_
      refine asAnd ?_
      rw [nI_leI (by omega) (by omega)]
      refine And.intro (fun c => ?_) (fun c => ?_)
      · refine go ok_X8_nowhere ?_
        refine Cal.z (c_piecesEver hc hv ?_)
        refine go ok_X8_nowhere ?_
        exact q
      · omega
    | succ n ih =>
      intro i l4 hi
      have hh := fun l4 => ih (i + 1) l4 (by omega)
      simp only [saiR, ← nI_1] at hh
      obtain ⟨-, hf⟩ := hc.fv (p := i) (by omega)
      refine go ok_X8_nowhere ?_
      refine And.intro hc.pg.1 ?_
      refine Cal.z (hc.psize ?_)
      refine go ok_X8_nowhere ?_
      refine asAnd ?_
      rw [nI_leI (by omega) (by omega)]
      refine And.intro (fun c => ?_) (fun c => ?_)
      · omega
      · refine go ok_X8_nowhere ?_
        refine And.intro hc.pg.1 ?_
        refine Cal.z (hc.pget (i := i) (by omega) ?_)
        refine go ok_X8_nowhere ?_
        refine And.intro (Or.inr (hc.pv (by omega))) ?_
        refine asAnd ?_
        refine And.intro (hc.pv (by omega)) ?_
        refine Cal.z (c_lastView hc (by omega) ?_)
        cases e : lstL (vws (gD S) i) with
        | none =>
          simp only [e] at hh
          refine go ok_X8_nowhere ?_
          refine And.intro (fun c2 => absurd rfl c2) (fun _ => ?_)
          refine go ok_X8_nowhere ?_
          exact hh _
        | some k =>
          simp only [e] at hh
          obtain ⟨k1, -⟩ := lstL_v hf e
          obtain ⟨⟨t1, -⟩, -, -, -, -, -, t7, -⟩ := hc.lks.2 k k1
          refine go ok_X8_nowhere ?_
          refine And.intro (fun _ => ?_) (fun c2 => absurd c2 (hc.la0 k1))
          refine go ok_X8_nowhere ?_
          refine And.intro t1 ?_
          show Ex l w true mX8_nowhere (d + 4) Q 4 [some (vr 32), some (vl (saiR S i ||| hL h 133 (gN (gLa G) k))), none, some (vi (nI i + 1)), some (vr (gN (gLa G) k))] [] h 0 0
          rw [t7]
          exact hh _
  refine Con.of ok_X8_nowhere (nones := [none, none, none, none]) rfl (by simp) ?_
  refine go ok_X8_nowhere ?_
  exact lp (gDs S).length 0 _ (by omega)
theorem c_likenessOf (hc : RC S G h) {a b : Nat} (ha : a < (gD S).length) (hb : b < (gD S).length) (q : Q (some (vi (lkn (gD S) (gCl S) a b))) h) : Con l w true (d + 1) HX5_likenessOf [vr (hR h 583 32), vr (gN (gLa G) a), vr (gN (gLa G) b)] h 0 0 Q := by
  obtain ⟨⟨a1, -⟩, -, -, -, -, -, a7, -⟩ := hc.lks.2 a ha
  obtain ⟨⟨b1, -⟩, -, -, -, -, -, b7, -⟩ := hc.lks.2 b hb
  have r1 := hc.rt.1
  have r2 : hL h 390 (hR h 583 32) = gCl S := hc.rt.2.2.2.2.2.2
  refine Con.of ok_X5_likenessOf (nones := [none, none]) rfl (by simp) ?_
  refine go ok_X5_likenessOf ?_
  refine And.intro a1 ?_
  refine asAnd ?_
  refine And.intro b1 ?_
  refine asAnd ?_
  refine And.intro r1 ?_
  refine asCal ?_
  rw [a7, b7, r2]
  refine Cal.z (j_bitCountL ?_)
  refine go ok_X5_likenessOf ?_
  refine And.intro a1 ?_
  refine asAnd ?_
  refine And.intro b1 ?_
  refine asAnd ?_
  refine And.intro r1 ?_
  refine asCal ?_
  rw [a7, b7, r2]
  refine Cal.z (j_bitCountL ?_)
  refine go ok_X5_likenessOf ?_
  refine And.intro (fun c => ?_) (fun c => ?_)
  · rw [lkn, if_neg c] at q
    refine go ok_X5_likenessOf ?_
    refine And.intro c ?_
    exact q
  · rw [lkn, if_pos c] at q
    refine go ok_X5_likenessOf ?_
    exact q
theorem c_likeness (hc : RC S G h) {x y : Int32} (q : Q (some (vi (likenessA S x y))) h) : Con l w true (d + 5) HX8_likeness [vr 32, vi x, vi y] h 0 0 Q := by
  refine Con.of ok_X8_likeness (nones := [none, none]) rfl (by simp) ?_
  refine go ok_X8_likeness ?_
  refine Cal.z (k_viewAt hc (fun e => ?_) (fun k hk ek hvk e hn => ?_))
  · refine go ok_X8_likeness ?_
    refine Cal.z (k_viewAt hc (fun e2 => ?_) (fun j hj ej hvj e2 hn2 => ?_))
    · refine go ok_X8_likeness ?_
      refine And.intro (fun c => ?_) (fun c => absurd c (by decide))
      refine go ok_X8_likeness ?_
      rw [likenessA, e] at q
      exact q
    · refine go ok_X8_likeness ?_
      refine And.intro (fun c => ?_) (fun c => absurd c (by decide))
      refine go ok_X8_likeness ?_
      rw [likenessA, e] at q
      exact q
  · subst ek
    refine go ok_X8_likeness ?_
    refine Cal.z (k_viewAt hc (fun e2 => ?_) (fun j hj ej hvj e2 hn2 => ?_))
    · refine go ok_X8_likeness ?_
      refine And.intro (fun c => absurd c hn) (fun _ => ?_)
      refine go ok_X8_likeness ?_
      refine And.intro (fun c => absurd c (by decide)) (fun c => ?_)
      refine go ok_X8_likeness ?_
      rw [likenessA, e, e2] at q
      exact q
    · subst ej
      rw [likenessA, e, e2] at q
      dsimp only at q
      obtain ⟨⟨a1, -⟩, -, -, -, a5, -⟩ := hc.lks.2 k hk
      obtain ⟨⟨b1, -⟩, -, -, -, b5, -⟩ := hc.lks.2 j hj
      have k54 : ¬ (kdD (gD S) k = 0 ∧ kdD (gD S) j = 0) → Ex l w true mX8_likeness (d + 5) Q 54 [some (vr 32), some (vi (nI k)), some (vi (nI j)), some (vr (gN (gLa G) k)), some (vr (gN (gLa G) j))] [] h 0 0 := by
        intro c
        rw [if_neg c] at q
        refine go ok_X8_likeness ?_
        exact q
      refine go ok_X8_likeness ?_
      refine And.intro (fun c => absurd c hn) (fun _ => ?_)
      refine go ok_X8_likeness ?_
      refine And.intro (fun _ => ?_) (fun c => absurd c hn2)
      refine go ok_X8_likeness ?_
      refine And.intro a1 ?_
      refine Cal.z (c_isSeen a1 a5 ?_)
      by_cases c1 : kdD (gD S) k = 0
      · rw [decide_eq_true c1]
        refine go ok_X8_likeness ?_
        refine And.intro (fun c => absurd c (by decide)) (fun c => ?_)
        refine go ok_X8_likeness ?_
        refine And.intro b1 ?_
        refine Cal.z (c_isSeen b1 b5 ?_)
        by_cases c2 : kdD (gD S) j = 0
        · rw [decide_eq_true c2]
          rw [if_pos ⟨c1, c2⟩] at q
          refine go ok_X8_likeness ?_
          refine And.intro (fun c => absurd c (by decide)) (fun c => ?_)
          refine go ok_X8_likeness ?_
          refine And.intro hc.rt.1 ?_
          refine Cal.z (c_likenessOf hc hk hj ?_)
          refine go ok_X8_likeness ?_
          exact q
        · rw [decide_eq_false c2]
          refine go ok_X8_likeness ?_
          refine And.intro (fun c => ?_) (fun c => absurd c (by decide))
          exact k54 (fun z => c2 z.2)
      · rw [decide_eq_false c1]
        refine go ok_X8_likeness ?_
        refine And.intro (fun c => ?_) (fun c => absurd c (by decide))
        exact k54 (fun z => c1 z.1)
theorem RC.la_inj (hc : RC S G h) {a b : Nat} (ha : a < (gD S).length) (hb : b < (gD S).length) (e : gN (gLa G) a = gN (gLa G) b) : a = b := by
  have h1 := (hc.lks.2 a ha).2.1
  have h2 := (hc.lks.2 b hb).2.1
  have := hc.l150
  rw [e, h2, nI_eq (by omega) (by omega)] at h1
  exact h1.symm
theorem seenR_last {D : List LK} {vs : List Nat} (h0 : ¬ vs.length = 0) (e : kdD D (gN vs (vs.length - 1)) = 0) : seenR D vs vs.length = some (gN vs (vs.length - 1)) := by
  cases hn : vs.length with
  | zero => exact absurd hn h0
  | succ n =>
    rw [hn, show n + 1 - 1 = n from rfl] at e
    rw [seenR, show n + 1 - 1 = n from rfl, if_pos e]
theorem c_moved (hc : RC S G h) (hv : Inv S) {x : Int32} (q : Q (some (vi (movedA S x))) h) : Con l w true (d + 4) HX8_moved [vr 32, vi x] h 0 0 Q := by
  have h12 := hc.pgs.2.1
  refine Con.of ok_X8_moved (nones := [none, none, none, none, none, none]) rfl (by simp) ?_
  refine go ok_X8_moved ?_
  refine Cal.z (k_pageAt hc (fun e => ?_) (fun k hk ek e hn => ?_))
  · rw [movedA, e] at q
    refine go ok_X8_moved ?_
    refine And.intro (fun c => absurd c (by decide)) (fun c => ?_)
    refine go ok_X8_moved ?_
    exact q
  · subst ek
    rw [movedA, e] at q
    dsimp only at q
    obtain ⟨t4, hf⟩ := hc.fv hk
    refine go ok_X8_moved ?_
    refine And.intro (fun _ => ?_) (fun c => absurd c hn)
    refine go ok_X8_moved ?_
    refine And.intro t4 ?_
    refine Cal.z (c_lastSeen hc hk ?_)
    cases es : seenR (gD S) (vws (gD S) k) (vws (gD S) k).length with
    | none =>
      have q' : Q (some (vi (-1))) h := by
        rw [es] at q
        cases e2 : lstL (vws (gD S) k) with
        | none => rw [e2] at q; exact q
        | some j =>
          rw [e2] at q
          dsimp only at q
          split at q <;> exact q
      refine go ok_X8_moved ?_
      refine And.intro (fun _ => ?_) (fun c => absurd rfl c)
      refine go ok_X8_moved ?_
      exact q'
    | some f =>
      obtain ⟨i0, hi0, ef, ekf⟩ := seenR_in _ _ es
      obtain ⟨f1, f3⟩ := hf.2 i0 hi0
      rw [← ef] at f1 f3
      rw [es] at q
      have hne : ¬ (vws (gD S) k).length = 0 := by omega
      have el : lstL (vws (gD S) k) = some (gN (vws (gD S) k) ((vws (gD S) k).length - 1)) := by unfold lstL; rw [if_neg hne]
      obtain ⟨g1, g3⟩ := hf.2 ((vws (gD S) k).length - 1) (by omega)
      rw [el] at q
      dsimp only at q
      refine go ok_X8_moved ?_
      refine And.intro (fun c => absurd c (hc.la0 f1)) (fun _ => ?_)
      refine go ok_X8_moved ?_
      refine And.intro t4 ?_
      refine Cal.z (c_lastView hc hk ?_)
      rw [el]
      have o1 := (hc.lks.2 f f1).1.2
      have o2 := (hc.lks.2 _ g1).1.2
      generalize hgl : gN (vws (gD S) k) ((vws (gD S) k).length - 1) = gl at *
      refine go ok_X8_moved ?_
      refine And.intro (Or.inr ⟨Or.inr (show 32 ≤ gN (gLa G) f by omega), Or.inr (show 32 ≤ gN (gLa G) gl by omega)⟩) ?_
      refine And.intro (fun c => ?_) (fun c => ?_)
      · -- the last is gone
        have kg : kdD (gD S) gl = 1 := by
          rcases isV_kd g3 with z | z
          · have := seenR_last (D := gD S) hne (by rw [hgl]; exact z)
            rw [es, hgl] at this
            injection this with this
            exact absurd (by show gN (gLa G) f = gN (gLa G) gl; rw [this]) c
          · exact z
        rw [if_pos kg] at q
        have lp : ∀ n i l7, i + n = (gDs S).length → Ex l w true mX8_moved (d + 4) Q 43 [some (vr 32), some (vi (nI k)), some (vr (gN (gPa G) k)), some (vr (gN (gLa G) f)), some (vi (mvR S k f i).1), some (vi (mvR S k f i).2), some (vi (nI i)), l7] [] h 0 0 := by
          intro n
          induction n with
          | zero =>
            intro i l7 hi
            have : i = (gDs S).length := by omega
            subst this
            refine go ok_X8_moved ?_
            refine And.intro hc.pg.1 ?_
            refine Cal.z (hc.psize ?_)
            refine go ok_X8_moved ?_
            refine asAnd ?_
            rw [nI_leI (by omega) (by omega)]
            refine And.intro (fun c2 => ?_) (fun c2 => ?_)
            · refine go ok_X8_moved ?_
              exact q
            · omega
          | succ n ih =>
            intro i l7 hi
            have hh := fun l7 => ih (i + 1) l7 (by omega)
            obtain ⟨-, hfi⟩ := hc.fv (p := i) (by omega)
            have hmost : (59 : Int32) ≤ (mvR S k f i).2 := by
              clear ih hh hfi hi
              induction i with
              | zero => exact Int32.le_refl _
              | succ i ihi =>
                rw [mvR]
                split
                · rename_i z; exact Int32.le_trans ihi (Int32.le_of_lt z)
                · exact ihi
            have k120 : ∀ l7, ¬ (mvR S k f i).2 < mvV S k f i → Ex l w true mX8_moved (d + 4) Q 120 [some (vr 32), some (vi (nI k)), some (vr (gN (gPa G) k)), some (vr (gN (gLa G) f)), some (vi (mvR S k f i).1), some (vi (mvR S k f i).2), some (vi (nI i)), l7] [] h 0 0 := by
              intro l7 z
              simp only [mvR, if_neg z, ← nI_1] at hh
              refine go ok_X8_moved ?_
              exact hh _
            have no0 : ¬ (mvR S k f i).2 < 0 := fun z => by
              rw [Int32.le_iff_toInt_le] at hmost
              rw [Int32.lt_iff_toInt_lt] at z
              simp at hmost z
              omega
            refine go ok_X8_moved ?_
            refine And.intro hc.pg.1 ?_
            refine Cal.z (hc.psize ?_)
            refine go ok_X8_moved ?_
            refine asAnd ?_
            rw [nI_leI (by omega) (by omega)]
            refine And.intro (fun c2 => ?_) (fun c2 => ?_)
            · omega
            · refine go ok_X8_moved ?_
              refine And.intro hc.pg.1 ?_
              refine Cal.z (hc.pget (i := i) (by omega) ?_)
              refine go ok_X8_moved ?_
              refine And.intro (Or.inr (hc.pv (by omega))) ?_
              refine asAnd ?_
              refine And.intro (hc.pv (by omega)) ?_
              refine Cal.z (c_lastView hc (by omega) ?_)
              cases e3 : lstL (vws (gD S) i) with
              | none =>
                refine go ok_X8_moved ?_
                refine And.intro (fun _ => ?_) (fun c3 => absurd rfl c3)
                refine k120 _ ?_
                rw [mvV, e3]
                split <;> exact no0
              | some m =>
                obtain ⟨m1, m2⟩ := lstL_v hfi e3
                obtain ⟨⟨a1, -⟩, -, -, -, a5, -⟩ := hc.lks.2 m m1
                refine go ok_X8_moved ?_
                refine And.intro (fun c3 => absurd c3 (hc.la0 m1)) (fun _ => ?_)
                refine go ok_X8_moved ?_
                refine And.intro a1 ?_
                refine Cal.z (c_isSeen a1 a5 ?_)
                by_cases c4 : kdD (gD S) m = 0
                · have hik : ¬ i = k := fun z => by
                    subst z
                    rw [el] at e3
                    injection e3 with e3
                    rw [← e3, kg] at c4
                    exact absurd c4 (by decide)
                  have emv : mvV S k f i = lkn (gD S) (gCl S) f m := by rw [mvV, if_neg hik, e3]; dsimp only; rw [if_pos c4]
                  rw [decide_eq_true c4]
                  refine go ok_X8_moved ?_
                  refine And.intro (fun c5 => absurd c5 (by decide)) (fun c5 => ?_)
                  refine go ok_X8_moved ?_
                  refine And.intro hc.rt.1 ?_
                  refine Cal.z (c_likenessOf hc f1 m1 ?_)
                  rw [emv] at k120
                  refine go ok_X8_moved ?_
                  refine And.intro (fun c6 => ?_) (fun c6 => ?_)
                  · exact k120 _ (by simpa using c6)
                  · have c6' : (mvR S k f i).2 < lkn (gD S) (gCl S) f m := by simpa using c6
                    simp only [mvR, emv, if_pos c6', ← nI_1] at hh
                    refine go ok_X8_moved ?_
                    refine And.intro hc.rt.1 ?_
                    refine Cal.z (c_likenessOf hc f1 m1 ?_)
                    refine go ok_X8_moved ?_
                    refine go ok_X8_moved ?_
                    exact hh _
                · rw [decide_eq_false c4]
                  refine go ok_X8_moved ?_
                  refine And.intro (fun c5 => ?_) (fun c5 => absurd c5 (by decide))
                  refine k120 _ ?_
                  rw [mvV, e3]
                  dsimp only
                  rw [if_neg c4]
                  split <;> exact no0
        refine go ok_X8_moved ?_
        exact lp (gDs S).length 0 _ (by omega)
      · have eqf : f = gl := hc.la_inj f1 g1 c
        have kg : ¬ kdD (gD S) gl = 1 := by rw [← eqf, ekf]; decide
        rw [if_neg kg] at q
        refine go ok_X8_moved ?_
        exact q
end C7

