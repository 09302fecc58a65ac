/-! ===== the class: links, more, right, count, lose, words, mend ===== -/
section C8
variable {l : Launch} {w : WD} {d : Nat} {h : AH} {Q : Option AV → AH → Prop} {S : SG} {G : GH} {p : Nat}
def totR (cs : List CLS) : Nat → Int32
  | 0 => 0
  | k + 1 => totR cs k + (gC cs k).2.2
theorem c_total {cs : List CLS} {a : Nat} (hp : PMc cs a h) (q : Q (some (vi (totR cs cs.length))) h) : Con l w true d HX4_total [vr a] h 0 0 Q := by
  obtain ⟨⟨p0, -, -, p1, p2⟩, p3, p4, p5, p6⟩ := hp
  have lp : ∀ n i, i + n = cs.length → Ex l w true mX4_total d Q 4 [some (vr a), some (vi (totR cs i)), some (vi (nI i))] [] h 0 0 := by
    intro n
    induction n with
    | zero =>
      intro i hi
      have : i = cs.length := by omega
      subst this
      refine go ok_X4_total ?_
      refine And.intro p0 ?_
      refine asAnd ?_
      rw [p3, nI_leI (by omega) (by omega)]
      refine And.intro (fun c => ?_) (fun c => ?_)
      · refine go ok_X4_total ?_
        exact q
      · omega
    | succ n ih =>
      intro i hi
      have hh := ih (i + 1) (by omega)
      rw [totR, ← nI_1] at hh
      refine go ok_X4_total ?_
      refine And.intro p0 ?_
      refine asAnd ?_
      rw [p3, nI_leI (by omega) (by omega)]
      refine And.intro (fun c => ?_) (fun c => ?_)
      · omega
      · refine go ok_X4_total ?_
        refine And.intro p0 ?_
        refine asAnd ?_
        refine And.intro ⟨Or.inl p1, ix_of rfl (show i < (aI h (hR h 322 a)).length by omega) (by omega)⟩ ?_
        rw [nI_clamp (by omega), (p6 i (by omega)).2.2]
        exact hh
  refine Con.of ok_X4_total (nones := [none, none]) rfl (by simp) ?_
  refine go ok_X4_total ?_
  exact lp cs.length 0 (by omega)
theorem c_linkAt {cs : List CLS} {a : Nat} (hp : PMc cs a h) (hok : ∀ k, k < cs.length → clOK (gC cs k)) {x : Int32} (q : Q (some (vi (lnkA cs cs.length 0 x))) h) : Con l w true d HX4_linkAt [vr a, vi x] h 0 0 Q := by
  obtain ⟨⟨p0, ⟨a1, a2⟩, ⟨b1, b2⟩, p1, p2⟩, p3, p4, p5, p6⟩ := hp
  have lp : ∀ n i left, i + n = cs.length → Q (some (vi (lnkA cs n i left))) h → Ex l w true mX4_linkAt d Q 4 [some (vr a), some (vi x), some (vi left), some (vi (nI i))] [] h 0 0 := by
    intro n
    induction n with
    | zero =>
      intro i left hi q
      have : i = cs.length := by omega
      subst this
      refine go ok_X4_linkAt ?_
      refine And.intro p0 ?_
      refine asAnd ?_
      rw [p3, nI_leI (by omega) (by omega)]
      refine And.intro (fun c => ?_) (fun c => ?_)
      · refine go ok_X4_linkAt ?_
        exact q
      · omega
    | succ n ih =>
      intro i left hi q
      rw [lnkA] at q
      obtain ⟨e1, e2, e3⟩ := p6 i (by omega)
      have ei : (nI i).toNatClampNeg = i := nI_clamp (by omega)
      have k32 : (gC cs i).2.2 < 0 ∨ left < (gC cs i).2.2 → Ex l w true mX4_linkAt d Q 32 [some (vr a), some (vi x), some (vi left), some (vi (nI i))] [] h 0 0 := by
        intro c
        rw [if_pos c] at q
        refine go ok_X4_linkAt ?_
        refine And.intro p0 ?_
        refine asAnd ?_
        refine And.intro ⟨Or.inl a1, ix_of rfl (show i < (aI h (hR h 320 a)).length by omega) (by omega)⟩ ?_
        refine asAnd ?_
        refine And.intro p0 ?_
        refine asAnd ?_
        refine And.intro ⟨Or.inl b1, ix_of rfl (show i < (aI h (hR h 321 a)).length by omega) (by omega)⟩ ?_
        rw [ei, e1, e2]
        refine Qv q ?_
        rw [Int32.mul_comm]
      have hle : -1 ≤ (gC cs i).2.2 := (hok i (by omega)).2.2.1
      refine go ok_X4_linkAt ?_
      refine And.intro p0 ?_
      refine asAnd ?_
      rw [p3, nI_leI (by omega) (by omega)]
      refine And.intro (fun c => ?_) (fun c => ?_)
      · omega
      · refine go ok_X4_linkAt ?_
        refine And.intro p0 ?_
        refine asAnd ?_
        refine And.intro ⟨Or.inl p1, ix_of rfl (show i < (aI h (hR h 322 a)).length by omega) (by omega)⟩ ?_
        refine asAnd ?_
        rw [ei, e3]
        refine And.intro (fun c2 => ?_) (fun c2 => ?_)
        · exact k32 (Or.inl (by rw [c2]; decide))
        · refine go ok_X4_linkAt ?_
          refine And.intro p0 ?_
          refine asAnd ?_
          refine And.intro ⟨Or.inl p1, ix_of rfl (show i < (aI h (hR h 322 a)).length by omega) (by omega)⟩ ?_
          refine asAnd ?_
          rw [ei, e3]
          refine And.intro (fun c3 => ?_) (fun c3 => ?_)
          · have c4 : ¬ (gC cs i).2.2 < 0 := fun z => c2 (by
              apply Int32.toInt_inj.mp
              rw [Int32.le_iff_toInt_le] at hle
              rw [Int32.lt_iff_toInt_lt] at z
              simp at hle z ⊢
              omega)
            rw [if_neg (fun z => z.elim c4 (fun z => absurd c3 (by simpa using z)))] at q
            have hh := ih (i + 1) _ (by omega) q
            rw [← nI_1] at hh
            refine go ok_X4_linkAt ?_
            refine And.intro p0 ?_
            refine asAnd ?_
            refine And.intro ⟨Or.inl p1, ix_of rfl (show i < (aI h (hR h 322 a)).length by omega) (by omega)⟩ ?_
            rw [ei, e3]
            exact hh
          · exact k32 (Or.inr (by simpa using c3))
  refine Con.of ok_X4_linkAt (nones := [none, none]) rfl (by simp) ?_
  refine go ok_X4_linkAt ?_
  exact lp cs.length 0 x (by omega) q
/-- of clauses that end: sums -/
theorem totR_n {cs : List CLS} (hl8 : cs.length ≤ 8) (hok : ∀ k, k < cs.length → clOK (gC cs k)) : ∀ n, n ≤ cs.length → trapR cs n = false → ∃ m, m ≤ n * 999 ∧ totR cs n = nI m ∧ ∀ most : Nat, most ≤ 10000 → lnkM cs (nI most) n = if m ≤ most then nI m else nI most
  | 0, _, _ => ⟨0, Nat.zero_le _, rfl, fun most _ => by rw [if_pos (Nat.zero_le _)]; rfl⟩
  | n + 1, hn, ht => by
    rw [trapR, Bool.or_eq_false_iff] at ht
    obtain ⟨m, h1, h2, h3⟩ := totR_n hl8 hok n (by omega) ht.1
    obtain ⟨-, -, g1, g2⟩ := hok n (by omega)
    have g0 : 0 ≤ (gC cs n).2.2 := by simpa using ht.2
    obtain ⟨t, ht2, et⟩ := natOf (n := 999) (by decide) g0 g2
    refine ⟨m + t, by rw [Nat.add_mul]; omega, by rw [totR, h2, et, nI_add], fun most hm => ?_⟩
    have hm2 : m ≤ 8000 ∨ True := Or.inr trivial
    rw [lnkM, h3 most hm, et]
    have hn8 : n * 999 ≤ cs.length * 999 := Nat.mul_le_mul_right _ (by omega)
    by_cases c : m ≤ most
    · rw [if_pos c, nI_add]
      by_cases c2 : m + t ≤ most
      · rw [if_neg (fun z => by
          rcases z with z | z
          · exact nI_pos (by omega) z
          · rw [nI_ltI (by omega) (by omega)] at z; omega), if_pos c2]
      · rw [if_pos (Or.inr (by rw [nI_ltI (by omega) (by omega)]; omega)), if_neg c2]
    · rw [if_neg c, if_neg (show ¬ m + t ≤ most by omega), nI_add]
      by_cases c2 : t = 0
      · subst c2
        rw [if_neg (fun z => by
          rcases z with z | z
          · exact absurd z (by decide)
          · rw [nI_ltI (by omega) (by omega)] at z; omega), Nat.add_zero]
      · rw [if_pos (Or.inr (by rw [nI_ltI (by omega) (by omega)]; omega))]
theorem lnkM_trap {cs : List CLS} (hok : ∀ k, k < cs.length → clOK (gC cs k)) {most : Nat} (hm : most ≤ 10000) : ∀ n, n ≤ cs.length → trapR cs n = true → lnkM cs (nI most) n = nI most
  | 0, _, ht => by cases ht
  | n + 1, hn, ht => by
    rw [trapR, Bool.or_eq_true, decide_eq_true_eq] at ht
    rw [lnkM]
    by_cases c : (gC cs n).2.2 < 0
    · rw [if_pos (Or.inl c)]
    · have h1 := lnkM_trap hok hm n (by omega) (ht.resolve_right c)
      obtain ⟨-, -, g1, g2⟩ := hok n (by omega)
      obtain ⟨t, ht2, et⟩ := natOf (n := 999) (by decide) (by simpa using c) g2
      rw [h1, et, nI_add]
      by_cases c2 : t = 0
      · subst c2
        rw [if_neg (fun z => by
          rcases z with z | z
          · exact absurd z (by decide)
          · rw [nI_ltI (by omega) (by omega)] at z; omega), Nat.add_zero]
      · rw [if_pos (Or.inr (by rw [nI_ltI (by omega) (by omega)]; omega))]
theorem RC.pm (hc : RC S G h) (hp : p < (gDs S).length) : PMc (prD (gPr S) p) (hR h 195 (gN (gPa G) p)) h := (hc.pgs.2.2 p hp).2.2.2.2
theorem Inv.cl (hv : Inv S) (p : Nat) : ∀ k, k < (prD (gPr S) p).length → clOK (gC (prD (gPr S) p) k) := hv.2.2.2.2.2.2.2.1.2 p
theorem c_links (hc : RC S G h) (hv : Inv S) {x ps i : Int32} (q : Q (some (vi (linksA S x ps i))) h) : Con l w true (d + 4) HX8_links [vr 32, vi x, vi ps, vi i] h 0 0 Q := by
  refine Con.of ok_X8_links (nones := [none, none]) rfl (by simp) ?_
  refine go ok_X8_links ?_
  refine Cal.z (k_pageAt hc (fun e => ?_) (fun k hk ek e hn => ?_))
  · rw [linksA, e] at q
    refine go ok_X8_links ?_
    refine And.intro (fun c => absurd c (by decide)) (fun c => ?_)
    refine go ok_X8_links ?_
    exact q
  · subst ek
    rw [linksA, e] at q
    dsimp only at q
    have hpm := hc.pm hk
    have hl8 := hpm.2.2.1
    have hok := hv.cl k
    have t4 := hc.pv hk
    have k27 : ¬ (0 ≤ ps ∧ ps ≤ 200) → Ex l w true mX8_links (d + 4) Q 27 [some (vr 32), some (vi (nI k)), some (vi ps), some (vi i), some (vr (gN (gPa G) k)), none] [] h 0 0 := by
      intro c
      rw [if_neg c] at q
      refine go ok_X8_links ?_
      exact q
    refine go ok_X8_links ?_
    refine And.intro (fun _ => ?_) (fun c => absurd c hn)
    refine go ok_X8_links ?_
    refine And.intro (fun c => ?_) (fun c => ?_)
    · exact k27 (fun z => absurd z.1 (by simpa using c))
    · refine go ok_X8_links ?_
      refine And.intro (fun c2 => ?_) (fun c2 => ?_)
      · have hps : 0 ≤ ps ∧ ps ≤ 200 := ⟨by simpa using c, c2⟩
        rw [if_pos hps] at q
        obtain ⟨ps', hps', rfl⟩ := natOf (n := 200) (by decide) hps.1 hps.2
        generalize hcs : prD (gPr S) k = cs at hpm hok q hl8
        have k58 : ∀ v, v = lnkM cs (nI ps') cs.length → Ex l w true mX8_links (d + 4) Q 58 [some (vr 32), some (vi (nI k)), some (vi (nI ps')), some (vi i), some (vr (gN (gPa G) k)), none] [vi v] h 0 0 := by
          intro v hv'
          subst hv'
          have hb : ∃ m, m ≤ 200 ∧ lnkM cs (nI ps') cs.length = nI m := by
            cases ht : trapR cs cs.length with
            | true => exact ⟨ps', hps', lnkM_trap hok (by omega) _ (Nat.le_refl _) ht⟩
            | false =>
              obtain ⟨m, h1, h2, h3⟩ := totR_n hl8 hok cs.length (Nat.le_refl _) ht
              rw [h3 ps' (by omega)]
              split
              · exact ⟨m, by omega, rfl⟩
              · exact ⟨ps', hps', rfl⟩
          obtain ⟨m, hm, em⟩ := hb
          rw [em] at q ⊢
          refine go ok_X8_links ?_
          refine And.intro (fun c3 => ?_) (fun c3 => ?_)
          · rw [if_neg c3] at q
            refine go ok_X8_links ?_
            refine And.intro (fun c4 => ?_) (fun c4 => ?_)
            · rw [if_neg (fun z => absurd z.1 (by simpa using c4))] at q
              refine go ok_X8_links ?_
              exact q
            · obtain ⟨j, hj, rfl⟩ := nI_of c4
              refine go ok_X8_links ?_
              refine asAnd ?_
              rw [nI_ltI hj (by omega)]
              refine And.intro (fun c5 => ?_) (fun c5 => ?_)
              · rw [if_pos ((ix_dec2 (by omega)).mpr ⟨j, c5, rfl⟩)] at q
                refine go ok_X8_links ?_
                refine And.intro t4 ?_
                refine asAnd ?_
                refine And.intro hpm.1.1 ?_
                refine Cal.z (c_linkAt hpm hok ?_)
                refine go ok_X8_links ?_
                exact q
              · rw [if_neg (fun z => by
                  obtain ⟨j', h1, h2⟩ := (ix_dec2 (by omega)).mp z
                  rw [nI_eq hj (by omega)] at h2
                  omega)] at q
                refine go ok_X8_links ?_
                exact q
          · rw [if_pos c3] at q
            refine go ok_X8_links ?_
            exact q
        refine go ok_X8_links ?_
        refine And.intro t4 ?_
        refine asAnd ?_
        refine And.intro hpm.1.1 ?_
        refine asAnd ?_
        rw [hpm.2.2.2.1]
        refine And.intro (fun c3 => ?_) (fun c3 => ?_)
        · have ht := b2i_eq.mp c3
          obtain ⟨m, h1, h2, h3⟩ := totR_n hl8 hok cs.length (Nat.le_refl _) ht
          have h8 := hpm.2.2.1
          have hm8 : m ≤ 8000 := Nat.le_trans h1 (Nat.le_trans (Nat.mul_le_mul_right _ h8) (by decide))
          refine go ok_X8_links ?_
          refine And.intro t4 ?_
          refine asAnd ?_
          refine And.intro hpm.1.1 ?_
          refine Cal.z (c_total hpm ?_)
          refine go ok_X8_links ?_
          refine k58 _ ?_
          rw [h2, h3 ps' (by omega)]
          by_cases z : m < ps'
          · rw [if_pos (nI_lt z (by omega)), if_pos (by omega)]
          · rw [if_neg (by rw [nI_ltI (by omega) (by omega)]; exact z)]
            split
            · congr 1; omega
            · rfl
        · have ht := b2i_ne.mp c3
          refine go ok_X8_links ?_
          exact k58 _ (lnkM_trap hok (by omega) _ (Nat.le_refl _) ht).symm
      · exact k27 (fun z => c2 z.2)
theorem c_more (hc : RC S G h) (hv : Inv S) {x ps : Int32} (q : Q (some (vi (moreA S x ps))) h) : Con l w true (d + 4) HX8_more [vr 32, vi x, vi ps] h 0 0 Q := by
  refine Con.of ok_X8_more (nones := [none]) rfl (by simp) ?_
  refine go ok_X8_more ?_
  refine Cal.z (k_pageAt hc (fun e => ?_) (fun k hk ek e hn => ?_))
  · rw [moreA, e] at q
    refine go ok_X8_more ?_
    refine And.intro (fun c => absurd c (by decide)) (fun c => ?_)
    refine go ok_X8_more ?_
    exact q
  · subst ek
    rw [moreA, e] at q
    dsimp only at q
    have hpm := hc.pm hk
    have hl8 := hpm.2.2.1
    have hok := hv.cl k
    have t4 := hc.pv hk
    have k25 : ¬ (0 ≤ ps ∧ ps ≤ 200) → Ex l w true mX8_more (d + 4) Q 25 [some (vr 32), some (vi (nI k)), some (vi ps), some (vr (gN (gPa G) k))] [] h 0 0 := by
      intro c
      rw [if_neg c] at q
      refine go ok_X8_more ?_
      exact q
    refine go ok_X8_more ?_
    refine And.intro (fun _ => ?_) (fun c => absurd c hn)
    refine go ok_X8_more ?_
    refine And.intro (fun c => ?_) (fun c => ?_)
    · exact k25 (fun z => absurd z.1 (by simpa using c))
    · refine go ok_X8_more ?_
      refine And.intro (fun c2 => ?_) (fun c2 => ?_)
      · rw [if_pos ⟨by simpa using c, c2⟩] at q
        generalize hcs : prD (gPr S) k = cs at hpm hok q hl8
        refine go ok_X8_more ?_
        refine And.intro t4 ?_
        refine asAnd ?_
        refine And.intro hpm.1.1 ?_
        refine asAnd ?_
        rw [hpm.2.2.2.1]
        refine And.intro (fun c3 => ?_) (fun c3 => ?_)
        · have ht := b2i_eq.mp c3
          rw [if_neg (by rw [ht]; decide)] at q
          obtain ⟨m, h1, h2, h3⟩ := totR_n hl8 hok cs.length (Nat.le_refl _) ht
          have h8 := hpm.2.2.1
          have hm8 : m ≤ 8000 := Nat.le_trans h1 (Nat.le_trans (Nat.mul_le_mul_right _ h8) (by decide))
          rw [show (10000 : Int32) = nI 10000 from rfl, h3 10000 (Nat.le_refl _), if_pos (by omega)] at q
          refine go ok_X8_more ?_
          refine And.intro t4 ?_
          refine asAnd ?_
          refine And.intro hpm.1.1 ?_
          refine Cal.z (c_total hpm ?_)
          rw [h2]
          refine go ok_X8_more ?_
          refine And.intro (fun c4 => ?_) (fun c4 => ?_)
          · rw [decide_eq_false (by simpa using c4)] at q
            refine go ok_X8_more ?_
            exact q
          · rw [decide_eq_true (by simpa using c4)] at q
            refine go ok_X8_more ?_
            exact q
        · rw [if_pos (b2i_ne.mp c3)] at q
          refine go ok_X8_more ?_
          exact q
      · exact k25 (fun z => c2 z.2)
end C8

