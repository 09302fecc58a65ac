/-! ===== the class: words, both ways ===== -/
section C10
variable {l : Launch} {w : WD} {d : Nat} {h : AH} {Q : Option AV → AH → Prop} {S : SG} {G : GH} {p : Nat}
theorem difN_iff {off : Int64} {f : Nat} : ∀ n, f + n ≤ 64 → (difN off f n = true ↔ ∃ k, k < n ∧ bl off (f + k) = true)
  | 0, _ => ⟨fun e => (by cases e), fun ⟨k, hk, _⟩ => (by omega)⟩
  | n + 1, h => by
    rw [difN, Bool.or_eq_true, decide_eq_true_eq, difN_iff n (by omega), l_get1 (by omega)]
    constructor
    · rintro (⟨k, h1, h2⟩ | h)
      · exact ⟨k, by omega, h2⟩
      · exact ⟨n, by omega, h⟩
    · rintro ⟨k, h1, h2⟩
      by_cases c : k = n
      · subst c; exact Or.inr h2
      · exact Or.inl ⟨k, by omega, h2⟩
theorem dif_mask {off : Int64} {f sz : Nat} (h1 : f + sz ≤ 64) (h2 : 1 ≤ sz) : ((off.toUInt64 >>> ((nI f).toInt64.toUInt64 &&& Int64.toUInt64 63)).toInt64 &&& ((-1 : Int64).toUInt64 >>> ((nI (64 - sz)).toInt64.toUInt64 &&& Int64.toUInt64 63)).toInt64) = 0 ↔ difN off f sz = false := by
  have hb : ∀ i, bl ((off.toUInt64 >>> ((nI f).toInt64.toUInt64 &&& Int64.toUInt64 63)).toInt64 &&& ((-1 : Int64).toUInt64 >>> ((nI (64 - sz)).toInt64.toUInt64 &&& Int64.toUInt64 63)).toInt64) i = (bl off (f + i) && decide (i < sz)) := by
    intro i
    rw [l_and, l_ushr (by omega), l_ushr (by omega)]
    congr 1
    by_cases c : i < sz
    · rw [decide_eq_true c, l_m1 _ (by omega)]
    · rw [decide_eq_false c, l_big (by omega)]
  constructor
  · intro e
    rw [Bool.eq_false_iff]
    intro z
    obtain ⟨k, h3, h4⟩ := (difN_iff sz h1).mp z
    have := hb k
    rw [e, l_0, h4, decide_eq_true h3] at this
    cases this
  · intro e
    apply l_ext
    intro i hi
    rw [hb i, l_0]
    by_cases c : i < sz
    · cases z : bl off (f + i) with
      | false => rfl
      | true => rw [(difN_iff sz h1).mpr ⟨i, c, z⟩] at e; cases e
    · rw [decide_eq_false c, Bool.and_false]
theorem c_sent_in {a b acc : Int32} {off : Int64} {sz cnt : Nat} (hsz : sz * cnt = 64) (hs1 : sz ≤ 64) (q : Ex l w true mX0_sentBetween d Q 78 [some (vr 52), some (vi a), some (vi b), some (vl off), none, some (vi (wrdB off sz acc cnt)), some (vi (nI sz)), some (vl ((-1 : Int64).toUInt64 >>> ((nI (64 - sz)).toInt64.toUInt64 &&& Int64.toUInt64 63)).toInt64), none, some (vi 64)] [] h 0 0) : ∀ n m, m + n = cnt →
    Ex l w true mX0_sentBetween d Q 39 [some (vr 52), some (vi a), some (vi b), some (vl off), none, some (vi (wrdB off sz acc m)), some (vi (nI sz)), some (vl ((-1 : Int64).toUInt64 >>> ((nI (64 - sz)).toInt64.toUInt64 &&& Int64.toUInt64 63)).toInt64), none, some (vi (nI (m * sz)))] [] h 0 0 := by
  have h1 : 1 ≤ sz := by
    rcases Nat.eq_zero_or_pos sz with z | z
    · subst z; omega
    · exact z
  intro n
  induction n with
  | zero =>
    intro m hi
    have : m = cnt := by omega
    subst this
    have e : m * sz = 64 := by rw [Nat.mul_comm]; exact hsz
    rw [e]
    refine go ok_X0_sentBetween ?_
    refine And.intro (fun c => ?_) (fun c => absurd c (by decide))
    exact q
  | succ n ih =>
    intro m hi
    have hm : m * sz + sz ≤ 64 := by
      have : (m + 1) * sz ≤ cnt * sz := Nat.mul_le_mul_right _ (by omega)
      rw [Nat.add_mul, Nat.one_mul, Nat.mul_comm cnt] at this
      omega
    have hh := ih (m + 1) (by omega)
    rw [wrdB, Nat.add_mul, Nat.one_mul, ← nI_add] at hh
    refine go ok_X0_sentBetween ?_
    refine And.intro (fun c => ?_) (fun c => ?_)
    · replace c : nI 64 ≤ nI (m * sz) := c; rw [nI_leI (by omega) (by omega)] at c
      omega
    · refine go ok_X0_sentBetween ?_
      refine asAnd ?_
      rw [lg_cmp_eq, dif_mask hm h1]
      refine And.intro (fun c2 => ?_) (fun c2 => ?_)
      · rw [if_neg (by rw [c2]; decide)] at hh
        refine go ok_X0_sentBetween ?_
        exact hh
      · rw [if_pos (by simpa using c2)] at hh
        refine go ok_X0_sentBetween ?_
        exact hh
theorem c_sent_out {a b : Int32} {off : Int64} (q : Q (some (vi (wrdJ off 6))) h) : ∀ n j l7 l9, j + n = 6 →
    Ex l w true mX0_sentBetween d Q 19 [some (vr 52), some (vi a), some (vi b), some (vl off), none, some (vi (wrdJ off j)), some (vi (nI (2 ^ (6 - j)))), l7, none, l9] [] h 0 0 := by
  intro n
  induction n with
  | zero =>
    intro j l7 l9 hi
    have : j = 6 := by omega
    subst this
    refine go ok_X0_sentBetween ?_
    refine And.intro (fun c => ?_) (fun c => absurd c (by decide))
    refine go ok_X0_sentBetween ?_
    exact q
  | succ n ih =>
    intro j l7 l9 hi
    have e1 : ∀ j, j < 6 → ¬ nI (2 ^ (6 - j)) ≤ 1 := by decide
    have e2 : ∀ j, j < 6 → nI (2 ^ (6 - j)) / 2 = nI (2 ^ (6 - (j + 1))) := by decide
    have e3 : ∀ j, j < 6 → 2 ^ (6 - j) * 2 ^ j = 64 := by decide
    have e4 : ∀ j, j < 6 → 2 ^ (6 - j) ≤ 64 := by decide
    have hm := c_sent_in (l := l) (w := w) (d := d) (h := h) (Q := Q) (a := a) (b := b) (acc := wrdJ off j) (off := off) (sz := 2 ^ (6 - j)) (cnt := 2 ^ j) (e3 j (by omega)) (e4 j (by omega)) ?_ (2 ^ j) 0 (by omega)
    · rw [Nat.zero_mul, ← i32_sub_nI (e4 j (by omega))] at hm
      refine go ok_X0_sentBetween ?_
      refine And.intro (fun c => ?_) (fun c => ?_)
      · exact absurd c (e1 j (by omega))
      · refine go ok_X0_sentBetween ?_
        exact hm
    · have hh := ih (j + 1) (some (vl ((-1 : Int64).toUInt64 >>> ((nI (64 - 2 ^ (6 - j))).toInt64.toUInt64 &&& Int64.toUInt64 63)).toInt64)) (some (vi 64)) (by omega)
      rw [← e2 j (by omega)] at hh
      refine go ok_X0_sentBetween ?_
      refine And.intro (by decide) ?_
      exact hh
theorem c_words (hc : RC S G h) {a b : Int32} (q : Q (some (vi (wordsA S a b))) h) : Con l w true (d + 2) HX8_words [vr 32, vi a, vi b] h 0 0 Q := by
  refine Con.of ok_X8_words (nones := []) rfl (by simp) ?_
  have k18 : ¬ ((0 ≤ a ∧ a ≤ 2) ∧ (0 ≤ b ∧ b ≤ 2)) → Ex l w true mX8_words (d + 2) Q 18 [some (vr 32), some (vi a), some (vi b)] [] h 0 0 := by
    intro c
    rw [wordsA, if_neg c] at q
    refine go ok_X8_words ?_
    exact q
  refine go ok_X8_words ?_
  refine And.intro (fun c => ?_) (fun c => ?_)
  · exact k18 (fun z => absurd z.1.1 (by simpa using c))
  · obtain ⟨k, hk, rfl⟩ := nI_of c
    refine go ok_X8_words ?_
    refine asAnd ?_
    rw [show (3 : Int32) = nI 3 from rfl, nI_leI (by omega) hk]
    refine And.intro (fun c2 => ?_) (fun c2 => ?_)
    · exact k18 (fun z => by have : nI k ≤ nI 2 := z.1.2; rw [nI_leI hk (by omega)] at this; omega)
    · refine go ok_X8_words ?_
      refine And.intro (fun c3 => ?_) (fun c3 => ?_)
      · exact k18 (fun z => absurd z.2.1 (by simpa using c3))
      · obtain ⟨j, hj, rfl⟩ := nI_of c3
        refine go ok_X8_words ?_
        refine asAnd ?_
        rw [show (3 : Int32) = nI 3 from rfl, nI_ltI hj (by omega)]
        refine And.intro (fun c4 => ?_) (fun c4 => ?_)
        · rw [wordsA, if_pos ⟨⟨nI_pos' hk, by show nI k ≤ nI 2; rw [nI_leI hk (by omega)]; omega⟩, nI_pos' hj, by show nI j ≤ nI 2; rw [nI_leI hj (by omega)]; omega⟩, nI_clamp hk, nI_clamp hj] at q
          refine go ok_X8_words ?_
          refine And.intro (fun c5 => ?_) (fun c5 => ?_)
          · rw [if_neg c5] at q
            have sb : ∀ K : Option AV → AH → Prop, K (some (vi (wrdJ (hsD S k ^^^ hsD S j) 6))) h → Con l w true (d + 1) HX0_sentBetween [vr 52, vi (nI k), vi (nI j)] h 0 0 K := by
              intro K hK
              refine Con.of ok_X0_sentBetween (nones := [none, none, none, none, none, none, none]) rfl (by simp) ?_
              refine go ok_X0_sentBetween ?_
              refine Cal.z (c_keptIn hc.hs (by omega) ?_)
              refine go ok_X0_sentBetween ?_
              refine Cal.z (c_keptIn hc.hs c4 ?_)
              refine go ok_X0_sentBetween ?_
              exact c_sent_out hK 6 0 _ _ rfl
            refine go ok_X8_words ?_
            refine Cal.z (sb _ ?_)
            refine go ok_X8_words ?_
            exact q
          · rw [if_pos c5] at q
            refine go ok_X8_words ?_
            exact q
        · exact k18 (fun z => by have : nI j ≤ nI 2 := z.2.2; rw [nI_leI hj (by omega)] at this; omega)
/-! ===== both ways ===== -/
def awR (D : List LK) (cl : Int64) (vs : List Nat) (one : Option Nat) (a b : Int32) : Nat → Bool
  | 0 => true
  | i + 1 => awR D cl vs one a b i && (!(decide (a ≤ hrD D (gN vs i)) && decide (hrD D (gN vs i) ≤ b)) || one.any (fun f => alk D cl f (gN vs i)))
theorem awR_false {D : List LK} {cl : Int64} {vs : List Nat} {one : Option Nat} {a b : Int32} {i : Nat} (e : awR D cl vs one a b i = false) : ∀ n, awR D cl vs one a b (i + n) = false
  | 0 => e
  | n + 1 => by rw [← Nat.add_assoc, awR, awR_false e n, Bool.false_and]
theorem c_alikeWithin (hc : RC S G h) (hv : Inv S) (hp : p < (gDs S).length) {a b : Int32} (q : Q (some (vi (b2i (awR (gD S) (gCl S) (vws (gD S) p) (ffO (gD S) (vws (gD S) p) a (vws (gD S) p).length) a b (vws (gD S) p).length)))) h) : Con l w true (d + 4) HX2_alikeWithin [vr (gN (gPa G) p), vi a, vi b, vr (hR h 583 32)] h 0 0 Q := by
  obtain ⟨t4, hf⟩ := hc.fv hp
  have h150 := hf.len
  have hff := fun q => c_firstFrom (l := l) (w := w) (d := d) (h := h) (Q := q) hc hp (t := a)
  generalize vws (gD S) p = vs at hf q h150 hff
  have hone : ∀ f, ffO (gD S) vs a vs.length = some f → f < (gD S).length ∧ isV (gD S) f = true := fun f e => by
    obtain ⟨j, hj, ej⟩ := ffO_in _ f e
    rw [ej]; exact hf.2 j hj
  generalize ffO (gD S) vs a vs.length = one at q hff hone
  have lp : ∀ n i l6, i + n = vs.length → awR (gD S) (gCl S) vs one a b i = true → Ex l w true mX2_alikeWithin (d + 4) Q 10 [some (vr (gN (gPa G) p)), some (vi a), some (vi b), some (vr (hR h 583 32)), some (vr (oa (gLa G) one)), some (vi (nI i)), l6] [] h 0 0 := by
    intro n
    induction n with
    | zero =>
      intro i l6 hi e
      have : i = vs.length := by omega
      subst this
      rw [e] at q
      refine go ok_X2_alikeWithin ?_
      refine And.intro t4 ?_
      refine asAnd ?_
      refine And.intro hf.1.1 ?_
      refine Cal.z (hf.size ?_)
      refine go ok_X2_alikeWithin ?_
      refine asAnd ?_
      rw [nI_leI (by omega) (by omega)]
      refine And.intro (fun c => ?_) (fun c => ?_)
      · refine go ok_X2_alikeWithin ?_
        refine And.intro (Or.inr rfl) ?_
        exact q
      · omega
    | succ n ih =>
      intro i l6 hi e
      have hlt : i < vs.length := by omega
      obtain ⟨l1, v1⟩ := hf.2 i hlt
      obtain ⟨⟨t1, -⟩, -, -, t3, -⟩ := hc.lks.2 _ l1
      have k76 : ∀ l6, awR (gD S) (gCl S) vs one a b (i + 1) = true → Ex l w true mX2_alikeWithin (d + 4) Q 76 [some (vr (gN (gPa G) p)), some (vi a), some (vi b), some (vr (hR h 583 32)), some (vr (oa (gLa G) one)), some (vi (nI i)), l6] [] h 0 0 := by
        intro l6 e2
        have hh := ih (i + 1) l6 (by omega) e2
        rw [← nI_1] at hh
        refine go ok_X2_alikeWithin ?_
        exact hh
      have bad : awR (gD S) (gCl S) vs one a b (i + 1) = false → Q (some (vi 0)) h := by
        intro e2
        have := awR_false e2 n
        rw [show i + 1 + n = vs.length by omega] at this
        rw [this] at q
        exact q
      rw [awR, e, Bool.true_and] at k76 bad
      refine go ok_X2_alikeWithin ?_
      refine And.intro t4 ?_
      refine asAnd ?_
      refine And.intro hf.1.1 ?_
      refine Cal.z (hf.size ?_)
      refine go ok_X2_alikeWithin ?_
      refine asAnd ?_
      rw [nI_leI (by omega) (by omega)]
      refine And.intro (fun c => ?_) (fun c => ?_)
      · omega
      · refine go ok_X2_alikeWithin ?_
        refine And.intro t4 ?_
        refine asAnd ?_
        refine And.intro hf.1.1 ?_
        refine Cal.z (hf.get hlt ?_)
        refine go ok_X2_alikeWithin ?_
        refine And.intro (Or.inr t1) ?_
        refine asAnd ?_
        refine And.intro t1 ?_
        refine asAnd ?_
        rw [t3]
        refine And.intro (fun c2 => ?_) (fun c2 => ?_)
        · exact k76 _ (by rw [decide_eq_false (show ¬ a ≤ hrD (gD S) (gN vs i) by simpa using c2)]; rfl)
        · rw [decide_eq_true (show a ≤ hrD (gD S) (gN vs i) by simpa using c2), Bool.true_and] at k76 bad
          refine go ok_X2_alikeWithin ?_
          refine And.intro t1 ?_
          refine asAnd ?_
          rw [t3]
          refine And.intro (fun c3 => ?_) (fun c3 => ?_)
          · exact k76 _ (by rw [decide_eq_false (show ¬ hrD (gD S) (gN vs i) ≤ b by simpa using c3)]; rfl)
          · rw [decide_eq_true (show hrD (gD S) (gN vs i) ≤ b by simpa using c3), Bool.not_true, Bool.false_or] at k76 bad
            cases one with
            | none =>
              refine go ok_X2_alikeWithin ?_
              refine And.intro (fun _ => ?_) (fun c4 => absurd rfl c4)
              refine go ok_X2_alikeWithin ?_
              refine And.intro (Or.inl rfl) ?_
              exact bad rfl
            | some f =>
              obtain ⟨f1, f2⟩ := hone f rfl
              refine go ok_X2_alikeWithin ?_
              refine And.intro (fun c4 => absurd c4 (hc.la0 f1)) (fun _ => ?_)
              refine go ok_X2_alikeWithin ?_
              refine And.intro hc.rt.1 ?_
              refine Cal.z (c_sameForm hc hv f1 l1 f2 v1 ?_)
              refine go ok_X2_alikeWithin ?_
              refine And.intro (fun c5 => ?_) (fun c5 => ?_)
              · exact k76 _ (b2i_ne.mp c5)
              · refine go ok_X2_alikeWithin ?_
                refine And.intro (Or.inl rfl) ?_
                exact bad (b2i_eq.mp c5)
  refine Con.of ok_X2_alikeWithin (nones := [none, none, none]) rfl (by simp) ?_
  refine go ok_X2_alikeWithin ?_
  refine And.intro t4 ?_
  refine Cal.z (hff _ ?_)
  refine go ok_X2_alikeWithin ?_
  exact lp vs.length 0 _ (by omega) rfl
end C10

