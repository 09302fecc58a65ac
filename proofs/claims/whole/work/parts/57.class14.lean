/-! ===== the class: scratch cells; the whole ===== -/
section C14
variable {l : Launch} {w : WD} {d : Nat} {h : AH} {Q : Option AV → AH → Prop} {S : SG} {G : GH} {p : Nat}
/-- rows that no state is told by -/
theorem RC.ti (hc : RC S G h) {a : Nat} {v : List Int32} (ha : 38 ≤ a ∧ a ≤ 53) : RC S G (tI h a v) := by
  have ne : ∀ x, ¬ x = a → aI (tI h a v) x = aI h x := fun x hx => by rw [aI_tI, if_neg hx]
  obtain ⟨a1, a2, a3, a4, a5, a6, a7, a8, a9, a10, a11, a12, a13, a14⟩ := hc
  have pm : ∀ q, isPm S G h q → ∀ j, j < 3 → ¬ hR h (320 + j) q = a := fun q hq j hj z => by
    have := (a14.2.2.2 q hq j hj).2
    omega
  have pms : ∀ q, isPm S G h q → PMs q h → PMs q (tI h a v) := fun q hq hp => by
    unfold PMs at *
    show hC h q = 6 ∧ (hC h (hR h 320 q) = 101 ∧ (aI (tI h a v) (hR h 320 q)).length = 8) ∧ (hC h (hR h 321 q) = 101 ∧ (aI (tI h a v) (hR h 321 q)).length = 8) ∧ (hC h (hR h 322 q) = 101 ∧ (aI (tI h a v) (hR h 322 q)).length = 8)
    rw [ne _ (pm q hq 0 (by decide)), ne _ (pm q hq 1 (by decide)), ne _ (pm q hq 2 (by decide))]
    exact hp
  refine ⟨⟨a1.1, a1.2.1, fun i hi => ?_⟩, a2, a3, a4, a5, a6, ⟨a7.1, a7.2.1, fun p hp => ?_⟩, ⟨?_, a8.2⟩, ?_, ?_, a11, a12, ?_, a14⟩
  · obtain ⟨b1, b2, b3, b4, b5⟩ := a1.2.2 i hi
    exact ⟨b1, b2, b3, b4, by rw [ne _ (by omega)]; exact b5⟩
  · obtain ⟨b1, b2, b3, b4, b5⟩ := a7.2.2 p hp
    have hq : isPm S G h (hR h 195 (gN (gPa G) p)) := Or.inr ⟨p, hp, rfl⟩
    refine ⟨b1, b2, b3, b4, pms _ hq b5.1, b5.2.1, b5.2.2.1, b5.2.2.2.1, ?_⟩
    show ∀ k, k < (prD (gPr S) p).length → (aI (tI h a v) (hR h 320 (hR h 195 (gN (gPa G) p)))).getD k 0 = _ ∧ (aI (tI h a v) (hR h 321 (hR h 195 (gN (gPa G) p)))).getD k 0 = _ ∧ (aI (tI h a v) (hR h 322 (hR h 195 (gN (gPa G) p)))).getD k 0 = _
    rw [ne _ (pm _ hq 0 (by decide)), ne _ (pm _ hq 1 (by decide)), ne _ (pm _ hq 2 (by decide))]
    exact b5.2.2.2.2
  · obtain ⟨b1, b2, b3, b4⟩ := a8.1
    exact ⟨b1, b2, by show aI (tI h a v) (hR h 583 32 + 1) = _; rw [ne _ (by rcases b2 with z | z <;> omega)]; exact b3, b4⟩
  · rw [ne 35 (by omega)]; exact a9
  · exact ⟨a10.1, a10.2.1, by rw [ne 37 (by omega)]; exact a10.2.2⟩
  · exact pms _ (Or.inl rfl) a13
theorem OX.si {f a : Nat} {v : Int32} (hf : f < 640) : OX h (sI h f a v) := ⟨fun g hg => ⟨by rw [hI_sI, if_neg (fun z => by omega)], rfl⟩, fun _ _ _ => ⟨rfl, rfl⟩⟩
theorem OX.ti {a : Nat} {v : List Int32} (ha : a < 63 ∨ 88 ≤ a) : OX h (tI h a v) := ⟨fun _ _ => ⟨rfl, rfl⟩, fun x h1 h2 => ⟨by rw [aI_tI, if_neg (by omega)], rfl⟩⟩
/-! ===== a run of hours of one state ===== -/
def wRun (n : Nat) (x : WT) (t off nn : Int32) (m : Nat) : WT :=
  (if x.1 < 0 ∧ off = 0 then t else x.1, x.2.1 + (if off = 0 then nI m else 0), if x.2.2.1 < 0 ∧ nn = 0 then t else x.2.2.1, if ons off.toInt64 < ons x.2.2.2.1.toInt64 ∨ (ons off.toInt64 = ons x.2.2.2.1.toInt64 ∧ off < x.2.2.2.1) then off else x.2.2.2.1, wNear x t (nI n - ons off.toInt64) nn)
theorem i32_irr {x : Int32} (h : x < x) : False := Int32.lt_irrefl h
theorem wStep_run {n : Nat} {x : WT} {t t2 off nn : Int32} (ht : 0 ≤ t) {m : Nat} : wStep n (wRun n x t off nn m) t2 off nn = wRun n x t off nn (m + 1) := by
  have hz : ∀ y : Int32, 0 ≤ y → ¬ y < 0 := fun y hy z => by rw [Int32.lt_iff_toInt_lt] at z; rw [Int32.le_iff_toInt_le] at hy; omega
  obtain ⟨x1, x2, x3, x4, x5, x6, x7⟩ := x
  unfold wStep wRun
  dsimp only
  refine Prod.ext ?_ (Prod.ext ?_ (Prod.ext ?_ (Prod.ext ?_ ?_)))
  · dsimp only
    by_cases c : x1 < 0 ∧ off = 0
    · rw [if_pos c, if_neg (fun z => hz t ht z.1)]
    · rw [if_neg c, if_neg c]
  · dsimp only
    by_cases c : off = 0
    · rw [if_pos c, if_pos c, decide_eq_true c, Int32.add_assoc]
      show _ + (nI m + 1) = _
      rw [nI_1]
    · rw [if_neg c, if_neg c, decide_eq_false c]
      exact Int32.add_zero _
  · dsimp only
    by_cases c : x3 < 0 ∧ nn = 0
    · rw [if_pos c, if_neg (fun z => hz t ht z.1)]
    · rw [if_neg c, if_neg c]
  · dsimp only
    by_cases c : ons off.toInt64 < ons x4.toInt64 ∨ (ons off.toInt64 = ons x4.toInt64 ∧ off < x4)
    · rw [if_pos c, if_neg (fun z => z.elim i32_irr (fun z => i32_irr z.2))]
    · rw [if_neg c, if_neg c]
  · dsimp only
    unfold wNear
    dsimp only
    generalize nI n - ons off.toInt64 = tw
    by_cases c : x5 < 0 ∨ x6 < tw ∨ (tw = x6 ∧ nn < x7)
    · rw [if_pos c]
      dsimp only
      rw [if_neg (fun z => z.elim (hz t ht) (fun z => z.elim i32_irr (fun z => i32_irr z.2)))]
    · rw [if_neg c]
      dsimp only
      rw [if_neg c]
theorem whR_run {t : Nat} {off non : Int32} (ht : t ≤ 3001) : ∀ m, (∀ j, j < m + 1 → offR S (nI (t + j)) (gWh S).length = off ∧ nonR S (nI (t + j)) (gWh S).length = non) → whR S (t + (m + 1)) = wRun (gWh S).length (whR S t) (nI t) off non (m + 1)
  | 0, hc => by
    obtain ⟨e1, e2⟩ := hc 0 (by omega)
    rw [Nat.add_zero] at e1 e2
    show whR S (t + 1) = _
    rw [whR, e1, e2]
    unfold wStep wRun
    refine Prod.ext rfl (Prod.ext ?_ rfl)
    dsimp only
    by_cases c : off = 0
    · rw [decide_eq_true c, if_pos c]; rfl
    · rw [decide_eq_false c, if_neg c]; rfl
  | m + 1, hc => by
    obtain ⟨e1, e2⟩ := hc (m + 1) (by omega)
    show whR S (t + (m + 1) + 1) = _
    rw [whR, e1, e2, whR_run ht m (fun j hj => hc j (by omega)), wStep_run (nI_pos' (by omega))]
theorem off_bit {t : Int32} : ∀ n, n ≤ 8 → ∀ i, i < 32 → bt (offR S t n) i = (decide (i < n) && !decide (staS S (gN (gWh S) i) t = 2))
  | 0, _, i, _ => by rw [offR, b_0]; simp
  | n + 1, hn, i, hi => by
    rw [offR, b_or, off_bit n (by omega) i hi]
    by_cases c : staS S (gN (gWh S) n) t = 2
    · rw [if_pos c, b_0, Bool.or_false]
      by_cases z : i = n
      · subst z; rw [decide_eq_true c]; simp
      · rw [show decide (i < n + 1) = decide (i < n) by rw [Bool.eq_iff_iff, decide_eq_true_eq, decide_eq_true_eq]; omega]
    · rw [if_neg c, b_bit (by omega) hi]
      by_cases z : i = n
      · subst z; rw [decide_eq_false c]; simp
      · rw [decide_eq_false z, Bool.or_false, show decide (i < n + 1) = decide (i < n) by rw [Bool.eq_iff_iff, decide_eq_true_eq, decide_eq_true_eq]; omega]
theorem set_bits {x : Int32} {n : Nat} (hn : n ≤ 12) (hb : ∀ i, i < 32 → n ≤ i → bt x i = false) : 0 ≤ x ∧ x >>> (nI n &&& 31) = 0 := by
  refine ⟨bt_31' (hb 31 (by decide) (by omega)), ?_⟩
  apply b_ext
  intro i hi
  rw [b_sshr _ (by omega) _ hi, b_0]
  split
  · exact hb _ (by omega) (by omega)
  · exact hb 31 (by decide) (by omega)
theorem off_ons {t : Int32} {n : Nat} (hn : n ≤ 8) : 0 ≤ offR S t n ∧ ∃ c, c ≤ n ∧ ons (offR S t n).toInt64 = nI c := by
  obtain ⟨h0, h1⟩ := set_bits (x := offR S t n) (n := n) (by omega) (fun i hi hni => by rw [off_bit n hn i hi, decide_eq_false (by omega), Bool.false_and])
  exact ⟨h0, _, ctB_le _ _, ons_set (by omega) h0 h1⟩
/-- the states that stand in the rows hold from t on -/
def CVc (S : SG) (t : Nat) (st un : List Int32) : Prop := st.length = 8 ∧ un.length = 8 ∧ ∀ i, i < (gWh S).length → ∃ u, u ≤ 3001 ∧ un.getD i 0 = nI u ∧ ∀ t', t ≤ t' → t' < u → staS S (gN (gWh S) i) (nI t') = st.getD i 0
theorem c_stepTo (hc : RC S G h) (hv : Inv S) (h8 : (gWh S).length ≤ 8) {t : Nat} (ht : t ≤ 3000) {st un : List Int32} (hcv : CVc S t st un) (q : ∀ st' un' nx, CVc S t st' un' → t < nx → nx ≤ 3001 → (∀ i, i < (gWh S).length → ∀ t', t ≤ t' → t' < nx → staS S (gN (gWh S) i) (nI t') = st'.getD i 0) → Q (some (vi (nI nx))) (tI (tI h 40 st') 41 un')) : Con l w true (d + 6) HX7_stepTo [vr 38, vi (nI t), vr (hR h 583 32)] (tI (tI h 40 st) 41 un) 0 0 Q := by
  have lp : ∀ n i nx l5 st un, i + n = (gWh S).length → CVc S t st un → t < nx → nx ≤ 3001 → (∀ j, j < i → ∃ u, un.getD j 0 = nI u ∧ u ≤ 3001 ∧ nx ≤ u) → Ex l w true mX7_stepTo (d + 6) Q 7 [some (vr 38), some (vi (nI t)), some (vr (hR h 583 32)), some (vi (nI nx)), some (vi (nI i)), l5] [] (tI (tI h 40 st) 41 un) 0 0 := by
    intro n
    induction n with
    | zero =>
      intro i nx l5 st un hi hcv h1 h2 h3
      have : i = (gWh S).length := by omega
      subst this
      have hc' : RC S G (tI (tI h 40 st) 41 un) := (hc.ti (by decide)).ti (by decide)
      refine go ok_X7_stepTo ?_
      refine And.intro hc'.wh.1 ?_
      refine Cal.z (j_size hc'.wh ?_)
      rw [vwA_len]
      refine go ok_X7_stepTo ?_
      refine asAnd ?_
      rw [nI_leI (by omega) (by omega)]
      refine And.intro (fun c => ?_) (fun c => ?_)
      · refine go ok_X7_stepTo ?_
        refine q st un nx hcv h1 h2 (fun i hi t' g1 g2 => ?_)
        obtain ⟨u, e1, e2, e3⟩ := h3 i hi
        obtain ⟨u2, f1, f2, f3⟩ := hcv.2.2 i hi
        rw [e1, nI_eq (by omega) (by omega)] at f2
        subst f2
        exact f3 t' g1 (by omega)
      · omega
    | succ n ih =>
      intro i nx l5 st un hi hcv h1 h2 h3
      have hlt : i < (gWh S).length := by omega
      have hc' : RC S G (tI (tI h 40 st) 41 un) := (hc.ti (by decide)).ti (by decide)
      obtain ⟨u, u1, u2, u3⟩ := hcv.2.2 i hlt
      have ei : (nI i).toNatClampNeg = i := nI_clamp (by omega)
      have k90 : ∀ u st un l5, CVc S t st un → un.getD i 0 = nI u → t < u → u ≤ 3001 → (∀ j, j < i → ∃ u, un.getD j 0 = nI u ∧ u ≤ 3001 ∧ nx ≤ u) → Ex l w true mX7_stepTo (d + 6) Q 90 [some (vr 38), some (vi (nI t)), some (vr (hR h 583 32)), some (vi (nI nx)), some (vi (nI i)), l5] [] (tI (tI h 40 st) 41 un) 0 0 := by
        intro u st un l5 hcv eu g1 g2 g3
        have hh := ih (i + 1) (if u < nx then u else nx) l5 st un (by omega) hcv (by split <;> omega) (by split <;> omega) (fun j hj => by
          by_cases z : j = i
          · subst z; exact ⟨u, eu, g2, by split <;> omega⟩
          · obtain ⟨u', e1, e2, e3⟩ := g3 j (by omega)
            exact ⟨u', e1, e2, by split <;> omega⟩)
        rw [← nI_min (by omega) (by omega), ← nI_1] at hh
        refine Ex.lay (fun hy => ?_)
        refine go ok_X7_stepTo ?_
        refine And.intro (ix41 hy rfl (by omega)) ?_
        rw [show (aI (tI (tI h 40 st) 41 un) 41).getD (nI i).toNatClampNeg 0 = nI u by show un.getD (nI i).toNatClampNeg 0 = _; rw [ei]; exact eu]
        exact hh
      refine Ex.lay (fun hy => ?_)
      refine go ok_X7_stepTo ?_
      refine And.intro hc'.wh.1 ?_
      refine Cal.z (j_size hc'.wh ?_)
      rw [vwA_len]
      refine go ok_X7_stepTo ?_
      refine asAnd ?_
      rw [nI_leI (by omega) (by omega)]
      refine And.intro (fun c => ?_) (fun c => ?_)
      · omega
      · refine go ok_X7_stepTo ?_
        refine asAnd ?_
        rw [show (8 : Int32) = nI 8 from rfl, nI_leI (by omega) (by omega)]
        refine And.intro (fun c2 => ?_) (fun c2 => ?_)
        · omega
        · refine go ok_X7_stepTo ?_
          refine And.intro (ix41 hy rfl (by omega)) ?_
          refine asAnd ?_
          rw [show (aI (tI (tI h 40 st) 41 un) 41).getD (nI i).toNatClampNeg 0 = nI u by show un.getD (nI i).toNatClampNeg 0 = _; rw [ei]; exact u2, nI_ltI (by omega) (by omega)]
          refine And.intro (fun c3 => ?_) (fun c3 => ?_)
          · exact k90 u st un _ hcv u2 c3 u1 h3
          · have hk := hv.wh hlt
            have hkv : isV (gD S) (gN (gWh S) i) = true := by
              unfold isV
              rw [decide_eq_true hk, (hv.2.2.2.2.2.2.2.2.1 i hlt).2]; rfl
            obtain ⟨t3, th⟩ := hc'.home hk
            have hpg := hv.pg hk
            obtain ⟨cn, m1, m2, ecn⟩ := ncR_nat hv (k := gN (gWh S) i) (t := t) hk ht
            have e583 : hR (tI (tI h 40 st) 41 un) 583 32 = hR h 583 32 := rfl
            refine go ok_X7_stepTo ?_
            refine And.intro hc'.wh.1 ?_
            refine Cal.z (j_get hc'.wh (i := i) (by rw [vwA_len]; exact hlt) ?_)
            rw [gN_vwA hlt]
            refine go ok_X7_stepTo ?_
            refine And.intro (Or.inr t3) ?_
            refine asAnd ?_
            refine And.intro t3 ?_
            refine asAnd ?_
            rw [th]
            refine And.intro (hc'.pv hpg) ?_
            refine Cal.z (c_stateAt hc' hv hk hkv ?_)
            refine go ok_X7_stepTo ?_
            refine And.intro (jx40 hy (k := i) rfl (by omega)) ?_
            refine asAnd ?_
            refine And.intro t3 ?_
            refine asAnd ?_
            have hc2 : RC S G (tI (tI (tI h 40 st) 41 un) 40 (st.set i (staS S (gN (gWh S) i) (nI t)))) := hc'.ti (by decide)
            rw [show hR (tI (tI (tI h 40 st) 41 un) 40 ((aI (tI (tI h 40 st) 41 un) 40).set (nI i).toNatClampNeg (staS S (gN (gWh S) i) (nI t)))) 129 (gN (gLa G) (gN (gWh S) i)) = gN (gPa G) (pgD (gD S) (gN (gWh S) i)) from th]
            refine And.intro (hc'.pv hpg) ?_
            refine asCal ?_
            rw [ei, show aI (tI (tI h 40 st) 41 un) 40 = st from rfl]
            refine Cal.z (c_nextChange hc2 hv hpg ?_)
            rw [ecn]
            refine Ex.lay (fun hy => ?_)
            refine go ok_X7_stepTo ?_
            refine And.intro (jx41 hy (k := i) rfl (by omega)) ?_
            rw [ei, show aI (tI (tI (tI h 40 st) 41 un) 40 (st.set i (staS S (gN (gWh S) i) (nI t)))) 41 = un from rfl, tI_ab (by decide)]
            refine k90 cn _ _ _ ⟨by rw [List.length_set]; exact hcv.1, by rw [List.length_set]; exact hcv.2.1, fun j hj => ?_⟩ ?_ m1 m2 (fun j hj => ?_)
            · by_cases z : j = i
              · subst z
                refine ⟨cn, m2, ?_, fun t' g1 g2 => ?_⟩
                · rw [getD_set, if_pos ⟨rfl, by have := hcv.2.1; omega⟩]
                · rw [getD_set, if_pos ⟨rfl, by have := hcv.1; omega⟩]
                  refine staS_const hv ?_ ?_ ?_
                  · rw [nI_leI (by omega) (by omega)]; exact g1
                  · show nI t < nI 3001; rw [nI_ltI (by omega) (by omega)]; omega
                  · rw [ecn, nI_ltI (by omega) (by omega)]; exact g2
              · obtain ⟨u', e1, e2, e3⟩ := hcv.2.2 j hj
                refine ⟨u', e1, ?_, fun t' g1 g2 => ?_⟩
                · rw [getD_set, if_neg (fun y => z y.1)]; exact e2
                · rw [getD_set, if_neg (fun y => z y.1)]; exact e3 t' g1 g2
            · rw [getD_set, if_pos ⟨rfl, by have := hcv.2.1; omega⟩]
            · obtain ⟨u', e1, e2, e3⟩ := h3 j hj
              exact ⟨u', by rw [getD_set, if_neg (fun y => by omega)]; exact e1, e2, e3⟩
  refine Con.of ok_X7_stepTo (nones := [none, none, none]) rfl (by simp) ?_
  refine go ok_X7_stepTo ?_
  exact lp (gWh S).length 0 3001 _ st un (by omega) hcv (by omega) (Nat.le_refl _) (fun j hj => by omega)
theorem c_isFewer {a b : Int32} (ha : 0 ≤ a) (hb : 0 ≤ b) {ca cb : Nat} (ea : ons a.toInt64 = nI ca) (eb : ons b.toInt64 = nI cb) (h1 : ca ≤ 64) (h2 : cb ≤ 64) (q1 : (ons a.toInt64 < ons b.toInt64 ∨ (ons a.toInt64 = ons b.toInt64 ∧ a < b)) → Q (some (vi 1)) h) (q2 : ¬ (ons a.toInt64 < ons b.toInt64 ∨ (ons a.toInt64 = ons b.toInt64 ∧ a < b)) → Q (some (vi 0)) h) : Con l w true (d + 1) HX7_isFewer [vi a, vi b] h 0 0 Q := by
  have es : (nI ca - nI cb).toInt = (ca : Int) - cb := by
    rw [Int32.toInt_sub, nI_toInt (by omega), nI_toInt (by omega), Int.bmod_eq_of_le] <;> omega
  have lt0 : nI ca - nI cb < 0 ↔ ca < cb := by
    rw [Int32.lt_iff_toInt_lt, es]
    show (ca : Int) - cb < 0 ↔ _
    omega
  have eq0 : nI ca - nI cb = 0 ↔ ca = cb := by
    rw [← Int32.toInt_inj, es]
    show (ca : Int) - cb = 0 ↔ _
    omega
  rw [ea, eb, nI_ltI (by omega) (by omega), nI_eq (by omega) (by omega)] at q1 q2
  refine Con.of ok_X7_isFewer (nones := [none]) rfl (by simp) ?_
  refine go ok_X7_isFewer ?_
  refine Cal.z (j_bitCountI ha ?_)
  refine go ok_X7_isFewer ?_
  refine Cal.z (j_bitCountI hb ?_)
  rw [ea, eb]
  refine go ok_X7_isFewer ?_
  refine asAnd ?_
  rw [lt0]
  refine And.intro (fun c => ?_) (fun c => ?_)
  · refine go ok_X7_isFewer ?_
    refine And.intro (Or.inr rfl) ?_
    exact q1 (Or.inl c)
  · refine go ok_X7_isFewer ?_
    refine asAnd ?_
    rw [eq0]
    refine And.intro (fun c2 => ?_) (fun c2 => ?_)
    · refine go ok_X7_isFewer ?_
      refine And.intro (Or.inl rfl) ?_
      exact q2 (fun z => z.elim c (fun z => c2 z.1))
    · refine go ok_X7_isFewer ?_
      refine And.intro (fun c3 => ?_) (fun c3 => ?_)
      · refine go ok_X7_isFewer ?_
        refine And.intro (Or.inl rfl) ?_
        exact q2 (fun z => z.elim c (fun z => absurd z.2 (by simpa using c3)))
      · refine go ok_X7_isFewer ?_
        refine And.intro (Or.inr rfl) ?_
        exact q1 (Or.inr ⟨c2, by simpa using c3⟩)
/-- the class's own cells of the whole -/
def CWF (x : WT) (h : AH) : Prop := hI h 515 38 = x.1 ∧ hI h 516 38 = x.2.1 ∧ hI h 517 38 = x.2.2.1 ∧ hI h 518 38 = x.2.2.2.1 ∧ hI h 519 38 = x.2.2.2.2.1 ∧ hI h 520 38 = x.2.2.2.2.2.1 ∧ hI h 521 38 = x.2.2.2.2.2.2
/-- the nearest as the class keeps it -/
def cNear (y : Int32 × Int32 × Int32) (t tw nn : Int32) : Int32 × Int32 × Int32 := if y.2.1 < tw ∨ (tw = y.2.1 ∧ nn < y.2.2) then (t, tw, nn) else y
def cRun (n : Nat) (x : WT) (t off nn m : Int32) : WT :=
  (if off = 0 then (if x.1 = -1 then t else x.1) else x.1, if off = 0 then x.2.1 + m else x.2.1, if nn = 0 ∧ x.2.2.1 = -1 then t else x.2.2.1, if ons off.toInt64 < ons x.2.2.2.1.toInt64 ∨ (ons off.toInt64 = ons x.2.2.2.1.toInt64 ∧ off < x.2.2.2.1) then off else x.2.2.2.1, cNear x.2.2.2.2 t (nI n - ons off.toInt64) nn)
end C14

