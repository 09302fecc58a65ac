/-! ===== the class: hours ===== -/
theorem nI_min {y z : Nat} (hy : y < 2 ^ 31) (hz : z < 2 ^ 31) : (if nI y < nI z then nI y else nI z) = nI (if y < z then y else z) := by
  by_cases c : y < z
  · have c' : nI y < nI z := nI_lt c hz
    rw [if_pos c', if_pos c]
  · have c' : ¬ nI y < nI z := fun w => c ((nI_ltI hy hz).mp w)
    rw [if_neg c', if_neg c]
theorem nI_max {x y : Nat} (hx : x < 2 ^ 31) (hy : y < 2 ^ 31) : (if nI x < nI y then nI y else nI x) = nI (if x < y then y else x) := by
  by_cases c : x < y
  · have c' : nI x < nI y := nI_lt c hy
    rw [if_pos c', if_pos c]
  · have c' : ¬ nI x < nI y := fun w => c ((nI_ltI hx hy).mp w)
    rw [if_neg c', if_neg c]
section C13
variable {l : Launch} {w : WD} {d : Nat} {h : AH} {Q : Option AV → AH → Prop} {S : SG} {G : GH} {p : Nat}
/-- no change lies behind t up to t' -/
def noCh (D : List LK) (vs : List Nat) (t t' : Int32) : Prop := t ≤ t' ∧ ∀ i, i < vs.length → ¬ (t < fromD D (gN vs i) ∧ fromD D (gN vs i) ≤ t') ∧ ¬ (t < hrD D (gN vs i) ∧ hrD D (gN vs i) ≤ t') ∧ ¬ (t < hrD D (gN vs i) + 1 ∧ hrD D (gN vs i) + 1 ≤ t')
theorem thr {c t t' : Int32} (h : t ≤ t') (hn : ¬ (t < c ∧ c ≤ t')) : (c ≤ t) ↔ (c ≤ t') := by
  rw [Int32.le_iff_toInt_le, Int32.le_iff_toInt_le]
  rw [Int32.le_iff_toInt_le] at h
  rw [Int32.lt_iff_toInt_lt, Int32.le_iff_toInt_le] at hn
  omega
theorem clm_const {D : List LK} {cl : Int64} {pt : Int32} {vs : List Nat} {t t' : Int32} (hh : ∀ i, i < vs.length → 0 ≤ (hrD D (gN vs i)).toInt ∧ (hrD D (gN vs i)).toInt ≤ 3000) (hn : noCh D vs t t') {i : Nat} (hi : i < vs.length) : clm D cl pt vs t i = clm D cl pt vs t' i := by
  obtain ⟨h0, h1⟩ := hn
  obtain ⟨a1, a2, a3⟩ := h1 i hi
  obtain ⟨b1, b2⟩ := hh i hi
  unfold clm
  have e1 : decide (fromD D (gN vs i) ≤ t) = decide (fromD D (gN vs i) ≤ t') := by rw [Bool.eq_iff_iff, decide_eq_true_eq, decide_eq_true_eq]; exact thr h0 a1
  have e2 : decide (hrD D (gN vs i) + 1 ≤ t) = decide (hrD D (gN vs i) + 1 ≤ t') := by rw [Bool.eq_iff_iff, decide_eq_true_eq, decide_eq_true_eq]; exact thr h0 a3
  have e3 : decide (t ≤ hrD D (gN vs i)) = decide (t' ≤ hrD D (gN vs i)) := by
    rw [Bool.eq_iff_iff, decide_eq_true_eq, decide_eq_true_eq]
    have := thr h0 a3
    rw [Int32.le_iff_toInt_le, Int32.le_iff_toInt_le, fb_add1 (by omega)] at this
    rw [Int32.le_iff_toInt_le, Int32.le_iff_toInt_le]
    omega
  rw [e1, e2, e3]
  by_cases c : i + 1 < vs.length
  · obtain ⟨c1, c2, c3⟩ := h1 (i + 1) c
    obtain ⟨d1, d2⟩ := hh (i + 1) c
    have e4 : decide (t ≤ hrD D (gN vs (i + 1)) - 1) = decide (t' ≤ hrD D (gN vs (i + 1)) - 1) := by
      rw [Bool.eq_iff_iff, decide_eq_true_eq, decide_eq_true_eq]
      have := thr h0 c2
      rw [Int32.le_iff_toInt_le, Int32.le_iff_toInt_le] at this
      rw [Int32.le_iff_toInt_le, Int32.le_iff_toInt_le, fb_sub1 (by omega)]
      omega
    rw [e4]
  · unfold pairB
    simp only [decide_eq_false c, Bool.false_and]
theorem surR_const {D : List LK} {cl : Int64} {pt : Int32} {vs : List Nat} {t t' : Int32} (hcl : ∀ i, i < vs.length → clm D cl pt vs t i = clm D cl pt vs t' i) : ∀ n, n ≤ vs.length → surR D cl pt vs t n = surR D cl pt vs t' n
  | 0, _ => rfl
  | n + 1, h => by rw [surR, surR, surR_const hcl n (by omega), hcl n (by omega)]
theorem stateR_const {D : List LK} {cl : Int64} {pt : Int32} {vs : List Nat} {t t' : Int32} (hh : ∀ i, i < vs.length → 0 ≤ (hrD D (gN vs i)).toInt ∧ (hrD D (gN vs i)).toInt ≤ 3000) (hn : noCh D vs t t') (k : Nat) : stateR D cl pt vs k t = stateR D cl pt vs k t' := by
  have hcl := fun i hi => clm_const (cl := cl) (pt := pt) hh hn (i := i) hi
  have hb : ∀ n, n ≤ vs.length → befR D vs t n = befR D vs t' n := by
    intro n
    induction n with
    | zero => intro _; rfl
    | succ n ih =>
      intro hle
      rw [befR, befR, ih (by omega)]
      obtain ⟨b1, b2⟩ := hh n (by omega)
      have := thr hn.1 (hn.2 n (by omega)).2.2
      rw [Int32.le_iff_toInt_le, Int32.le_iff_toInt_le, fb_add1 (by omega)] at this
      by_cases c : hrD D (gN vs n) < t
      · rw [if_pos c, if_pos (by rw [Int32.lt_iff_toInt_lt] at c ⊢; omega)]
      · rw [if_neg c, if_neg (by rw [Int32.lt_iff_toInt_lt] at c ⊢; omega)]
  have ha : ∀ n, n ≤ vs.length → aftR D vs t n = aftR D vs t' n := by
    intro n
    induction n with
    | zero => intro _; rfl
    | succ n ih =>
      intro hle
      rw [aftR, aftR, ih (by omega)]
      have := thr hn.1 (hn.2 n (by omega)).2.1
      have e : t < hrD D (gN vs n) ↔ t' < hrD D (gN vs n) := by
        rw [Int32.le_iff_toInt_le, Int32.le_iff_toInt_le] at this
        rw [Int32.lt_iff_toInt_lt, Int32.lt_iff_toInt_lt]
        omega
      simp only [e]
  unfold stateR couldR
  rw [surR_const hcl _ (Nat.le_refl _), hb _ (Nat.le_refl _), ha _ (Nat.le_refl _)]
  have he : (List.range vs.length).any (fun i => clm D cl pt vs t i && alk D cl k (gN vs i)) = (List.range vs.length).any (fun i => clm D cl pt vs t' i && alk D cl k (gN vs i)) := by
    rw [Bool.eq_iff_iff, List.any_eq_true, List.any_eq_true]
    constructor
    · rintro ⟨i, a, b⟩; exact ⟨i, a, by rw [← hcl i (List.mem_range.mp a)]; exact b⟩
    · rintro ⟨i, a, b⟩; exact ⟨i, a, by rw [hcl i (List.mem_range.mp a)]; exact b⟩
  rw [he]
theorem staS_const (hv : Inv S) {k : Nat} {t t' : Int32} (h0 : t ≤ t') (ht : t < 3001) (hlt : t' < ncR (gD S) (vws (gD S) (pgD (gD S) k)) t (vws (gD S) (pgD (gD S) k)).length) : staS S k t' = staS S k t := by
  unfold staS
  refine (stateR_const (fun i hi => hv.hr (vws_in hi).1) ⟨h0, fun i hi => ?_⟩ k).symm
  obtain ⟨-, -, a3⟩ := ncR_spec (D := gD S) (vs := vws (gD S) (pgD (gD S) k)) ht (vws (gD S) (pgD (gD S) k)).length
  obtain ⟨b1, b2, b3⟩ := a3 i hi
  exact ⟨fun z => b1 ⟨z.1, Int32.lt_of_le_of_lt z.2 hlt⟩, fun z => b2 ⟨z.1, Int32.lt_of_le_of_lt z.2 hlt⟩, fun z => b3 ⟨z.1, Int32.lt_of_le_of_lt z.2 hlt⟩⟩
theorem ncR_nat (hv : Inv S) {k t : Nat} (hk : k < (gD S).length) (ht : t ≤ 3000) : ∃ c, t < c ∧ c ≤ 3001 ∧ ncR (gD S) (vws (gD S) (pgD (gD S) k)) (nI t) (vws (gD S) (pgD (gD S) k)).length = nI c := by
  obtain ⟨a1, a2, -⟩ := ncR_spec (D := gD S) (vs := vws (gD S) (pgD (gD S) k)) (t := nI t) (by show nI t < nI 3001; rw [nI_ltI (by omega) (by omega)]; omega) (vws (gD S) (pgD (gD S) k)).length
  obtain ⟨c, hc, e⟩ := natOf (n := 3001) (by decide) (Int32.le_trans (nI_pos' (n := t) (by omega)) (Int32.le_of_lt a1)) a2
  rw [e, nI_ltI (by omega) (by omega)] at a1
  exact ⟨c, a1, hc, e⟩
theorem hrsN_run {k : Nat} {a x : Int32} {n : Nat} {s : Int32} : ∀ m, (∀ j, j < m → staS S k (a + nI (n + j)) = s) → hrsN S k a x (n + m) = hrsN S k a x n + (if s = x then nI m else 0)
  | 0, _ => by
    rw [Nat.add_zero]
    split
    · exact (Int32.add_zero _).symm
    · exact (Int32.add_zero _).symm
  | m + 1, hc => by
    rw [← Nat.add_assoc, hrsN, hrsN_run m (fun j hj => hc j (by omega)), hc m (by omega)]
    by_cases c : s = x
    · rw [if_pos c, if_pos c, decide_eq_true c, Int32.add_assoc]
      show _ + (nI m + 1) = _
      rw [nI_1]
    · rw [if_neg c, if_neg c, decide_eq_false c, Int32.add_zero]
      exact Int32.add_zero _
theorem c_hours (hc : RC S G h) (hv : Inv S) {y a b x : Int32} (q : Q (some (vi (hoursA S y a b x))) h) : Con l w true (d + 6) HX8_hours [vr 32, vi y, vi a, vi b, vi x] h 0 0 Q := by
  refine Con.of ok_X8_hours (nones := [none, none, none, none]) rfl (by simp) ?_
  refine go ok_X8_hours ?_
  refine Cal.z (k_viewAt hc (fun e => ?_) (fun k hk ek hvk e hn => ?_))
  · rw [hoursA, e] at q
    refine go ok_X8_hours ?_
    refine And.intro (fun c => absurd c (by decide)) (fun c => ?_)
    refine go ok_X8_hours ?_
    exact q
  · subst ek
    rw [hoursA, e] at q
    dsimp only at q
    obtain ⟨t3, th⟩ := hc.home hk
    have hpg := hv.pg hk
    have k36 : ¬ ((0 ≤ a ∧ a ≤ gNw S) ∧ (a ≤ b ∧ b ≤ gNw S) ∧ (0 ≤ x ∧ x ≤ 2)) → Ex l w true mX8_hours (d + 6) Q 36 [some (vr 32), some (vi (nI k)), some (vi a), some (vi b), some (vi x), some (vr (gN (gLa G) k)), none, none, none] [] h 0 0 := by
      intro c
      rw [if_neg c] at q
      refine go ok_X8_hours ?_
      exact q
    refine go ok_X8_hours ?_
    refine And.intro (fun _ => ?_) (fun c => absurd c hn)
    refine go ok_X8_hours ?_
    refine Cal.z (k_isSpan (S := S) hc.now (fun c => ?_) (fun c => ?_))
    · refine go ok_X8_hours ?_
      refine And.intro (fun c2 => absurd c2 (by decide)) (fun c2 => ?_)
      refine go ok_X8_hours ?_
      refine And.intro (fun c3 => ?_) (fun c3 => ?_)
      · exact k36 (fun z => absurd z.2.2.1 (by simpa using c3))
      · refine go ok_X8_hours ?_
        refine And.intro (fun c4 => ?_) (fun c4 => ?_)
        · rw [if_pos ⟨c.1, c.2, by simpa using c3, c4⟩] at q
          obtain ⟨n0, hn0, en0⟩ := hv.now
          obtain ⟨ca, cb⟩ := c
          rw [en0] at ca cb
          obtain ⟨a', ha', rfl⟩ := natOf (by omega) ca.1 ca.2
          obtain ⟨b', hb', rfl⟩ := natOf (by omega) (Int32.le_trans ca.1 cb.1) cb.2
          have hab := cb.1
          rw [nI_leI (by omega) (by omega)] at hab
          rw [i32_sub_nI hab, nI_1, nI_clamp (by omega)] at q
          have lp : ∀ f i l8, b' + 1 - (a' + i) ≤ f → a' + i ≤ b' + 1 → Ex l w true mX8_hours (d + 6) Q 46 [some (vr 32), some (vi (nI k)), some (vi (nI a')), some (vi (nI b')), some (vi x), some (vr (gN (gLa G) k)), some (vi (hrsN S k (nI a') x i)), some (vi (nI (a' + i))), l8] [] h 0 0 := by
            have exitL : ∀ i l8, a' + i = b' + 1 → Ex l w true mX8_hours (d + 6) Q 46 [some (vr 32), some (vi (nI k)), some (vi (nI a')), some (vi (nI b')), some (vi x), some (vr (gN (gLa G) k)), some (vi (hrsN S k (nI a') x i)), some (vi (nI (a' + i))), l8] [] h 0 0 := by
              intro i l8 hi
              have ei : i = b' - a' + 1 := by omega
              subst ei
              refine go ok_X8_hours ?_
              refine asAnd ?_
              rw [nI_ltI (by omega) (by omega)]
              refine And.intro (fun c5 => ?_) (fun c5 => ?_)
              · refine go ok_X8_hours ?_
                exact q
              · omega
            intro f
            induction f with
            | zero =>
              intro i l8 hf hi
              exact exitL i l8 (by omega)
            | succ f ih =>
              intro i l8 hf hi
              by_cases ci : a' + i = b' + 1
              · exact exitL i l8 ci
              · obtain ⟨cn, h1, h2, ecn⟩ := ncR_nat hv (k := k) (t := a' + i) hk (by omega)
                -- the next hour
                generalize hnx : (if b' + 1 < cn then b' + 1 else cn) = nx at *
                have hnx1 : a' + i < nx ∧ nx ≤ b' + 1 ∧ nx ≤ cn := by subst hnx; split <;> omega
                have hst : ∀ j, j < nx - (a' + i) → staS S k (nI a' + nI (i + j)) = staS S k (nI (a' + i)) := by
                  intro j hj
                  rw [nI_add, ← Nat.add_assoc]
                  refine staS_const hv ?_ ?_ ?_
                  · rw [nI_leI (by omega) (by omega)]; omega
                  · show nI (a' + i) < nI 3001; rw [nI_ltI (by omega) (by omega)]; omega
                  · rw [ecn, nI_ltI (by omega) (by omega)]; omega
                have hrun := hrsN_run (S := S) (k := k) (a := nI a') (x := x) (n := i) (s := staS S k (nI (a' + i))) (nx - (a' + i)) hst
                have hh := fun l8 => ih (i + (nx - (a' + i))) l8 (by omega) (by omega)
                rw [hrun, show a' + (i + (nx - (a' + i))) = nx by omega] at hh
                have emm : (if nI (a' + i) + 1 < (if nI cn < nI b' + 1 then nI cn else nI b' + 1) then (if nI cn < nI b' + 1 then nI cn else nI b' + 1) else nI (a' + i) + 1) = nI nx := by
                  rw [nI_1, nI_1, nI_min (by omega) (by omega), nI_max (by omega) (by split <;> omega)]
                  congr 1
                  subst hnx
                  (repeat' split) <;> omega
                refine go ok_X8_hours ?_
                refine asAnd ?_
                rw [nI_ltI (by omega) (by omega)]
                refine And.intro (fun c5 => ?_) (fun c5 => ?_)
                · omega
                · refine go ok_X8_hours ?_
                  refine And.intro t3 ?_
                  refine asAnd ?_
                  rw [th]
                  refine And.intro (hc.pv hpg) ?_
                  refine Cal.z (c_nextChange hc hv hpg ?_)
                  rw [ecn]
                  refine go ok_X8_hours ?_
                  refine And.intro t3 ?_
                  refine asAnd ?_
                  rw [th]
                  refine And.intro (hc.pv hpg) ?_
                  refine Cal.z (c_stateAt hc hv hk hvk ?_)
                  rw [emm]
                  refine go ok_X8_hours ?_
                  refine And.intro (fun c6 => ?_) (fun c6 => ?_)
                  · rw [if_neg c6, show hrsN S k (nI a') x i + 0 = hrsN S k (nI a') x i from Int32.add_zero _] at hh
                    refine go ok_X8_hours ?_
                    exact hh _
                  · rw [if_pos c6, ← i32_sub_nI (by omega)] at hh
                    refine go ok_X8_hours ?_
                    refine go ok_X8_hours ?_
                    exact hh _
          refine go ok_X8_hours ?_
          exact lp (b' + 1 - a') 0 _ (by omega) (by omega)
        · exact k36 (fun z => c4 z.2.2.2)
    · refine go ok_X8_hours ?_
      refine And.intro (fun c2 => ?_) (fun c2 => absurd c2 (by decide))
      exact k36 (fun z => c ⟨z.1, z.2.1⟩)
end C13

