/-! ===== the class: both ways, hours ===== -/
section C12
variable {l : Launch} {w : WD} {d : Nat} {h : AH} {Q : Option AV → AH → Prop} {S : SG} {G : GH} {p : Nat}
theorem Inv.hnv (hv : Inv S) {f i : Nat} (hi : i < (vws (gD S) p).length) (e : f = gN (vws (gD S) p) i) : f < (gD S).length ∧ hrD (gD S) f = nI (hN (gD S) f) ∧ hN (gD S) f ≤ 3000 := by
  subst e
  have h1 := (vws_in hi).1
  exact ⟨h1, (hv.hn h1).1, (hv.hn h1).2.1⟩
theorem c_bothWays (hc : RC S G h) (hv : Inv S) {st a b : Int32} (q : Q (some (vi (bothWaysA S st a b))) h) : Con l w true (d + 5) HX8_bothWays [vr 32, vi st, vi a, vi b] h 0 0 Q := by
  have h12 := hc.pgs.2.1
  refine Con.of ok_X8_bothWays (nones := [none, none, none, none, none]) rfl (by simp) ?_
  refine go ok_X8_bothWays ?_
  refine Cal.z (k_arePages hc (fun c => ?_) (fun c => ?_))
  · rw [bothWaysA, if_pos c] at q
    refine go ok_X8_bothWays ?_
    refine And.intro (fun c2 => ?_) (fun c2 => absurd c2 (by decide))
    refine go ok_X8_bothWays ?_
    refine Cal.z (k_isSpan (S := S) hc.now (fun c3 => ?_) (fun c3 => ?_))
    · rw [if_pos c3] at q
      obtain ⟨n0, hn0, en0⟩ := hv.now
      obtain ⟨c3a, c3b⟩ := c3
      rw [en0] at c3a c3b
      obtain ⟨a', ha', rfl⟩ := natOf (by omega) c3a.1 c3a.2
      have hb0 : (0 : Int32) ≤ b := Int32.le_trans c3a.1 c3b.1
      obtain ⟨b', hb', rfl⟩ := natOf (by omega) hb0 c3b.2
      have hab := c3b.1
      rw [nI_leI (by omega) (by omega)] at hab
      rw [i32_sub_nI hab, nI_1, nI_clamp (by omega), bwS_eq hv (by omega) h12 (b' - a' + 1) a' (by omega) (Nat.le_refl _) (fun M L e => Or.inl (bcR_ge _ M L e).1)] at q
      have lp : ∀ n i M L l7 l8, i + n = (gDs S).length → bcR S st a' b' i = some (M, L) → M ≤ 3000 → L ≤ 3001 → Ex l w true mX8_bothWays (d + 5) Q 36 [some (vr 32), some (vi st), some (vi (nI a')), some (vi (nI b')), some (vi (nI M)), some (vi (nI L)), some (vi (nI i)), l7, l8] [] h 0 0 := by
        intro n
        induction n with
        | zero =>
          intro i M L l7 l8 hi e hM hL
          have : i = (gDs S).length := by omega
          subst this
          have hg := (bcR_ge _ M L e).1
          rw [e] at q
          dsimp only at q
          refine go ok_X8_bothWays ?_
          refine And.intro hc.pg.1 ?_
          refine Cal.z (hc.psize ?_)
          refine go ok_X8_bothWays ?_
          refine asAnd ?_
          rw [nI_leI (by omega) (by omega)]
          refine And.intro (fun c4 => ?_) (fun c4 => ?_)
          · refine go ok_X8_bothWays ?_
            refine asAnd ?_
            rw [nI_leI (by omega) (by omega)]
            refine And.intro (fun c5 => ?_) (fun c5 => ?_)
            · rw [if_neg (by omega)] at q
              refine go ok_X8_bothWays ?_
              exact q
            · rw [if_pos (by omega)] at q
              refine go ok_X8_bothWays ?_
              exact q
          · omega
        | succ n ih =>
          intro i M L l7 l8 hi e hM hL
          have e1 : bcR S st a' b' (i + 1) = if bt st i = true then (match ffO (gD S) (vws (gD S) i) (nI a') (vws (gD S) i).length, shnR (gD S) (vws (gD S) i) (nI b') (vws (gD S) i).length with
            | some f, some g => if awR (gD S) (gCl S) (vws (gD S) i) (some f) (nI a') (nI b') (vws (gD S) i).length = true then some (if M < hN (gD S) f then hN (gD S) f else M, if hN (gD S) g < L then hN (gD S) g else L) else none
            | _, _ => none) else some (M, L) := by
            rw [bcR, e]
            rfl
          have none_fin : bcR S st a' b' (i + 1) = none → Q (some (vi (-1))) h := by
            intro e2
            have : ∀ m, bcR S st a' b' (i + 1 + m) = none := by
              intro m
              induction m with
              | zero => exact e2
              | succ m ihm => rw [← Nat.add_assoc, bcR, ihm]
            have e3 := this n
            rw [show i + 1 + n = (gDs S).length by omega] at e3
            rw [e3] at q
            exact q
          have k161 : ∀ M L l7 l8, bcR S st a' b' (i + 1) = some (M, L) → M ≤ 3000 → L ≤ 3001 → Ex l w true mX8_bothWays (d + 5) Q 161 [some (vr 32), some (vi st), some (vi (nI a')), some (vi (nI b')), some (vi (nI M)), some (vi (nI L)), some (vi (nI i)), l7, l8] [] h 0 0 := by
            intro M L l7 l8 e2 h1 h2
            have hh := ih (i + 1) M L l7 l8 (by omega) e2 h1 h2
            rw [← nI_1] at hh
            refine go ok_X8_bothWays ?_
            exact hh
          refine go ok_X8_bothWays ?_
          refine And.intro hc.pg.1 ?_
          refine Cal.z (hc.psize ?_)
          refine go ok_X8_bothWays ?_
          refine asAnd ?_
          rw [nI_leI (by omega) (by omega)]
          refine And.intro (fun c4 => ?_) (fun c4 => ?_)
          · omega
          · refine go ok_X8_bothWays ?_
            refine asAnd ?_
            rw [b_get (by omega)]
            refine And.intro (fun c5 => ?_) (fun c5 => ?_)
            · exact k161 M L _ _ (by rw [e1, c5]; rfl) hM hL
            · have c5' : bt st i = true := by simpa using c5
              rw [if_pos c5'] at e1
              have hf1 := ffO_in (D := gD S) (vs := vws (gD S) i) (t := nI a') (vws (gD S) i).length
              have hg1 := shnR_in (D := gD S) (vs := vws (gD S) i) (t := nI b') (vws (gD S) i).length
              refine go ok_X8_bothWays ?_
              refine And.intro hc.pg.1 ?_
              refine Cal.z (hc.pget (i := i) (by omega) ?_)
              refine go ok_X8_bothWays ?_
              refine And.intro (Or.inr (hc.pv (by omega))) ?_
              refine asAnd ?_
              refine And.intro (hc.pv (by omega)) ?_
              refine Cal.z (c_firstFrom hc (by omega) ?_)
              refine go ok_X8_bothWays ?_
              refine And.intro hc.pg.1 ?_
              refine Cal.z (hc.pget (i := i) (by omega) ?_)
              refine go ok_X8_bothWays ?_
              refine And.intro (Or.inr (hc.pv (by omega))) ?_
              refine asAnd ?_
              refine And.intro (hc.pv (by omega)) ?_
              refine Cal.z (c_lastUpTo hc (by omega) ?_)
              have haw := fun K hK => c_alikeWithin (l := l) (w := w) (d := d) (h := h) (Q := K) hc hv (p := i) (by omega) (a := nI a') (b := nI b') hK
              cases ef : ffO (gD S) (vws (gD S) i) (nI a') (vws (gD S) i).length with
              | none =>
                rw [ef] at e1
                refine go ok_X8_bothWays ?_
                refine And.intro (fun _ => ?_) (fun z => absurd rfl z)
                refine go ok_X8_bothWays ?_
                exact none_fin e1
              | some f =>
                obtain ⟨jf, hjf, ejf⟩ := hf1 f ef
                obtain ⟨f1, f2, f3⟩ := hv.hnv hjf ejf
                refine go ok_X8_bothWays ?_
                refine And.intro (fun z => absurd z (hc.la0 f1)) (fun _ => ?_)
                cases eg : shnR (gD S) (vws (gD S) i) (nI b') (vws (gD S) i).length with
                | none =>
                  rw [ef, eg] at e1
                  refine go ok_X8_bothWays ?_
                  refine And.intro (fun _ => ?_) (fun z => absurd rfl z)
                  refine go ok_X8_bothWays ?_
                  exact none_fin e1
                | some g =>
                  obtain ⟨jg, hjg, ejg⟩ := hg1 g eg
                  obtain ⟨g1, g2, g3⟩ := hv.hnv hjg ejg
                  rw [ef, eg] at e1
                  dsimp only at e1
                  rw [ef] at haw
                  refine go ok_X8_bothWays ?_
                  refine And.intro (fun z => absurd z (hc.la0 g1)) (fun _ => ?_)
                  refine go ok_X8_bothWays ?_
                  refine And.intro hc.pg.1 ?_
                  refine Cal.z (hc.pget (i := i) (by omega) ?_)
                  refine go ok_X8_bothWays ?_
                  refine And.intro (Or.inr (hc.pv (by omega))) ?_
                  refine asAnd ?_
                  refine And.intro (hc.pv (by omega)) ?_
                  refine Cal.z (haw _ ?_)
                  refine go ok_X8_bothWays ?_
                  refine And.intro (fun c6 => ?_) (fun c6 => ?_)
                  · rw [if_pos (b2i_ne.mp c6)] at e1
                    have hh := fun l7 l8 => k161 _ _ l7 l8 e1 (by split <;> omega) (by split <;> omega)
                    have m1 : nI (if M < hN (gD S) f then hN (gD S) f else M) = if nI M < nI (hN (gD S) f) then nI (hN (gD S) f) else nI M := by
                      by_cases z : M < hN (gD S) f
                      · rw [if_pos z, if_pos (nI_lt z (by omega))]
                      · rw [if_neg z, if_neg (by rw [nI_ltI (by omega) (by omega)]; exact z)]
                    have m2 : nI (if hN (gD S) g < L then hN (gD S) g else L) = if nI (hN (gD S) g) < nI L then nI (hN (gD S) g) else nI L := by
                      by_cases z : hN (gD S) g < L
                      · rw [if_pos z, if_pos (nI_lt z (by omega))]
                      · rw [if_neg z, if_neg (by rw [nI_ltI (by omega) (by omega)]; exact z)]
                    rw [m1, m2, ← f2, ← g2, ← (hc.lks.2 f f1).2.2.2.1, ← (hc.lks.2 g g1).2.2.2.1] at hh
                    refine go ok_X8_bothWays ?_
                    refine And.intro (hc.lks.2 f f1).1.1 ?_
                    refine asAnd ?_
                    refine And.intro (hc.lks.2 g g1).1.1 ?_
                    exact hh _ _
                  · rw [if_neg (by rw [b2i_eq.mp c6]; decide)] at e1
                    refine go ok_X8_bothWays ?_
                    exact none_fin e1
      have hh := lp (gDs S).length 0 a' (b' + 1) none none (by omega) rfl (by omega) (by omega)
      rw [← nI_1] at hh
      refine go ok_X8_bothWays ?_
      refine And.intro (fun c4 => ?_) (fun c4 => absurd c4 (by decide))
      refine go ok_X8_bothWays ?_
      exact hh
    · rw [if_neg c3] at q
      refine go ok_X8_bothWays ?_
      refine And.intro (fun c4 => absurd c4 (by decide)) (fun c4 => ?_)
      refine go ok_X8_bothWays ?_
      exact q
  · rw [bothWaysA, if_neg c] at q
    refine go ok_X8_bothWays ?_
    refine And.intro (fun c2 => absurd c2 (by decide)) (fun c2 => ?_)
    refine go ok_X8_bothWays ?_
    exact q
/-! ===== between two changes the states stay ===== -/
def soo (c t nx : Int32) : Int32 := if t < c ∧ c < nx then c else nx
def ncR (D : List LK) (vs : List Nat) (t : Int32) : Nat → Int32
  | 0 => 3001
  | i + 1 => soo (hrD D (gN vs i) + 1) t (soo (hrD D (gN vs i)) t (soo (fromD D (gN vs i)) t (ncR D vs t i)))
theorem c_sooner {c t nx : Int32} (q : Q (some (vi (soo c t nx))) h) : Con l w true d HX2_sooner [vi c, vi t, vi nx] h 0 0 Q := by
  refine Con.of ok_X2_sooner (nones := []) rfl (by simp) ?_
  have k14 : ¬ (t < c ∧ c < nx) → Ex l w true mX2_sooner d Q 14 [some (vi c), some (vi t), some (vi nx)] [] h 0 0 := by
    intro z
    rw [soo, if_neg z] at q
    refine go ok_X2_sooner ?_
    exact q
  refine go ok_X2_sooner ?_
  refine And.intro (fun c1 => ?_) (fun c1 => ?_)
  · exact k14 (fun z => absurd z.1 (by simpa using c1))
  · refine go ok_X2_sooner ?_
    refine And.intro (fun c2 => ?_) (fun c2 => ?_)
    · exact k14 (fun z => absurd z.2 (by simpa using c2))
    · rw [soo, if_pos ⟨by simpa using c1, by simpa using c2⟩] at q
      refine go ok_X2_sooner ?_
      exact q
theorem c_nextChange (hc : RC S G h) (hv : Inv S) (hp : p < (gDs S).length) {t : Int32} (q : Q (some (vi (ncR (gD S) (vws (gD S) p) t (vws (gD S) p).length))) h) : Con l w true (d + 3) HX2_nextChange [vr (gN (gPa G) p), vi t] h 0 0 Q := by
  obtain ⟨t4, hf⟩ := hc.fv hp
  have h150 := hf.len
  generalize vws (gD S) p = vs at hf q h150
  have lp : ∀ n i l4, i + n = vs.length → Ex l w true mX2_nextChange (d + 3) Q 6 [some (vr (gN (gPa G) p)), some (vi t), some (vi (ncR (gD S) vs t i)), some (vi (nI i)), l4] [] h 0 0 := by
    intro n
    induction n with
    | zero =>
      intro i l4 hi
      have : i = vs.length := by omega
      subst this
      refine go ok_X2_nextChange ?_
      refine And.intro t4 ?_
      refine asAnd ?_
      refine And.intro hf.1.1 ?_
      refine Cal.z (hf.size ?_)
      refine go ok_X2_nextChange ?_
      refine asAnd ?_
      rw [nI_leI (by omega) (by omega)]
      refine And.intro (fun c => ?_) (fun c => ?_)
      · refine go ok_X2_nextChange ?_
        exact q
      · omega
    | succ n ih =>
      intro i l4 hi
      have hlt : i < vs.length := by omega
      obtain ⟨l1, v1⟩ := hf.2 i hlt
      obtain ⟨⟨t1, -⟩, -, -, t3, -⟩ := hc.lks.2 _ l1
      have hh := fun l4 => ih (i + 1) l4 (by omega)
      simp only [ncR, ← nI_1] at hh
      refine go ok_X2_nextChange ?_
      refine And.intro t4 ?_
      refine asAnd ?_
      refine And.intro hf.1.1 ?_
      refine Cal.z (hf.size ?_)
      refine go ok_X2_nextChange ?_
      refine asAnd ?_
      rw [nI_leI (by omega) (by omega)]
      refine And.intro (fun c => ?_) (fun c => ?_)
      · omega
      · refine go ok_X2_nextChange ?_
        refine And.intro t4 ?_
        refine asAnd ?_
        refine And.intro hf.1.1 ?_
        refine Cal.z (hf.get hlt ?_)
        refine go ok_X2_nextChange ?_
        refine And.intro (Or.inr t1) ?_
        refine asAnd ?_
        refine And.intro t1 ?_
        refine Cal.z (c_start hc hv l1 v1 ?_)
        refine go ok_X2_nextChange ?_
        refine Cal.z (c_sooner ?_)
        refine go ok_X2_nextChange ?_
        refine And.intro t1 ?_
        refine asCal ?_
        rw [t3]
        refine Cal.z (c_sooner ?_)
        refine go ok_X2_nextChange ?_
        refine And.intro t1 ?_
        refine asCal ?_
        rw [t3]
        refine Cal.z (c_sooner ?_)
        refine go ok_X2_nextChange ?_
        exact hh _
  refine Con.of ok_X2_nextChange (nones := [none, none, none]) rfl (by simp) ?_
  refine go ok_X2_nextChange ?_
  exact lp vs.length 0 _ (by omega)
/-- a number as an hour's change -/
theorem soo_spec {c t nx : Int32} (h1 : t < nx) : t < soo c t nx ∧ soo c t nx ≤ nx ∧ ¬ (t < c ∧ c < soo c t nx) := by
  unfold soo
  split
  · rename_i z
    exact ⟨z.1, Int32.le_of_lt z.2, fun w => Int32.lt_irrefl w.2⟩
  · rename_i z
    exact ⟨h1, Int32.le_refl _, z⟩
theorem ncR_spec {D : List LK} {vs : List Nat} {t : Int32} (ht : t < 3001) : ∀ n, t < ncR D vs t n ∧ ncR D vs t n ≤ 3001 ∧ ∀ i, i < n → ¬ (t < fromD D (gN vs i) ∧ fromD D (gN vs i) < ncR D vs t n) ∧ ¬ (t < hrD D (gN vs i) ∧ hrD D (gN vs i) < ncR D vs t n) ∧ ¬ (t < hrD D (gN vs i) + 1 ∧ hrD D (gN vs i) + 1 < ncR D vs t n)
  | 0 => ⟨ht, Int32.le_refl _, fun i hi => by omega⟩
  | n + 1 => by
    obtain ⟨a1, a2, a3⟩ := ncR_spec (D := D) (vs := vs) ht n
    rw [ncR]
    obtain ⟨b1, b2, b3⟩ := soo_spec (c := fromD D (gN vs n)) a1
    obtain ⟨c1, c2, c3⟩ := soo_spec (c := hrD D (gN vs n)) b1
    obtain ⟨d1, d2, d3⟩ := soo_spec (c := hrD D (gN vs n) + 1) c1
    generalize ncR D vs t n = x0 at *
    generalize soo (fromD D (gN vs n)) t x0 = x1 at *
    generalize soo (hrD D (gN vs n)) t x1 = x2 at *
    generalize soo (hrD D (gN vs n) + 1) t x2 = x3 at *
    have e1 : x3 ≤ x1 := Int32.le_trans d2 c2
    have e2 : x3 ≤ x0 := Int32.le_trans e1 b2
    refine ⟨d1, Int32.le_trans e2 a2, fun i hi => ?_⟩
    by_cases z : i = n
    · subst z
      exact ⟨fun w => b3 ⟨w.1, Int32.lt_of_lt_of_le w.2 e1⟩, fun w => c3 ⟨w.1, Int32.lt_of_lt_of_le w.2 d2⟩, d3⟩
    · obtain ⟨f1, f2, f3⟩ := a3 i (by omega)
      exact ⟨fun w => f1 ⟨w.1, Int32.lt_of_lt_of_le w.2 e2⟩, fun w => f2 ⟨w.1, Int32.lt_of_lt_of_le w.2 e2⟩, fun w => f3 ⟨w.1, Int32.lt_of_lt_of_le w.2 e2⟩⟩
end C12

