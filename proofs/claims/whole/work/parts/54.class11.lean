/-! ===== the class: both ways ===== -/
theorem bt_31' {x : Int32} (h : bt x 31 = false) : 0 ≤ x := by
  have : x.toBitVec.msb = false := by rw [BitVec.msb_eq_getLsbD_last]; exact h
  rw [BitVec.msb_eq_toInt] at this
  rw [Int32.le_iff_toInt_le]
  have h2 : ¬ x.toInt < 0 := of_decide_eq_false this
  simp
  omega
theorem msk_bits : ∀ n, n < 13 → ∀ i, i < 32 → bt (((1 : Int32) <<< (nI n &&& 31)) - 1) i = decide (i < n) := by decide +kernel
theorem b_not (x : Int32) {i : Nat} (hi : i < 32) : bt (x ^^^ (-1)) i = !bt x i := by
  have : bt (-1) i = true := (by decide +kernel : ∀ i, i < 32 → bt (-1) i = true) i hi
  unfold bt at *
  rw [Int32.toBitVec_xor, BitVec.getLsbD_xor, this]
  cases x.toBitVec.getLsbD i <;> rfl
theorem pgSet_bits {S : SG} {st : Int32} (hn : (gDs S).length ≤ 12) : pgSet S st ↔ ∀ i, i < 32 → (gDs S).length ≤ i → bt st i = false := by
  constructor
  · rintro ⟨h0, h1⟩ i hi hni
    exact b_high (by omega) h0 h1 i hni
  · intro hb
    refine ⟨bt_31' (hb 31 (by decide) (by omega)), ?_⟩
    apply b_ext
    intro i hi
    rw [b_sshr _ (by omega) _ hi, b_0]
    split
    · exact hb _ (by omega) (by omega)
    · exact hb 31 (by decide) (by omega)
section C11
variable {l : Launch} {w : WD} {d : Nat} {h : AH} {Q : Option AV → AH → Prop} {S : SG} {G : GH} {p : Nat}
theorem k_arePages (hc : RC S G h) {st : Int32} (q1 : pgSet S st → Q (some (vi 1)) h) (q2 : ¬ pgSet S st → Q (some (vi 0)) h) : Con l w true (d + 1) HX8_arePages [vr 32, vi st] h 0 0 Q := by
  have h12 := hc.pgs.2.1
  have key : st &&& ((((1 : Int32) <<< (nI (gDs S).length &&& 31)) - 1) ^^^ (-1)) = 0 ↔ pgSet S st := by
    rw [pgSet_bits h12]
    constructor
    · intro e i hi hni
      have := congrArg (fun z => bt z i) e
      simp only [b_and, b_0] at this
      rw [b_not _ hi, msk_bits _ (by omega) i hi, decide_eq_false (by omega)] at this
      simpa using this
    · intro hb
      apply b_ext
      intro i hi
      rw [b_and, b_not _ hi, msk_bits _ (by omega) i hi, b_0]
      by_cases c : i < (gDs S).length
      · rw [decide_eq_true c]; simp
      · rw [hb i hi (by omega), Bool.false_and]
  refine Con.of ok_X8_arePages (nones := []) rfl (by simp) ?_
  refine go ok_X8_arePages ?_
  refine And.intro hc.pg.1 ?_
  refine Cal.z (hc.psize ?_)
  refine go ok_X8_arePages ?_
  refine asAnd ?_
  rw [key]
  refine And.intro (fun c => ?_) (fun c => ?_)
  · refine go ok_X8_arePages ?_
    refine And.intro (Or.inl rfl) ?_
    exact q2 c
  · refine go ok_X8_arePages ?_
    refine And.intro (Or.inr rfl) ?_
    exact q1 c
/-- a middle, and the least last hour; none where a page has no two -/
def bcR (S : SG) (st : Int32) (a b : Nat) : Nat → Option (Nat × Nat)
  | 0 => some (a, b + 1)
  | p + 1 => match bcR S st a b p with
    | none => none
    | some (m, u) => if bt st p = true then (match ffO (gD S) (vws (gD S) p) (nI a) (vws (gD S) p).length, shnR (gD S) (vws (gD S) p) (nI b) (vws (gD S) p).length with
      | some f, some g => if awR (gD S) (gCl S) (vws (gD S) p) (some f) (nI a) (nI b) (vws (gD S) p).length = true then some (if m < hN (gD S) f then hN (gD S) f else m, if hN (gD S) g < u then hN (gD S) g else u) else none
      | _, _ => none) else some (m, u)
theorem ffO_spec {D : List LK} {vs : List Nat} {t : Int32} : ∀ n, (ffO D vs t n = none → ∀ i, i < n → ¬ t ≤ hrD D (gN vs i)) ∧ ∀ f, ffO D vs t n = some f → ∃ j, j < n ∧ f = gN vs j ∧ t ≤ hrD D (gN vs j) ∧ ∀ i, i < j → ¬ t ≤ hrD D (gN vs i)
  | 0 => ⟨fun _ i hi => by omega, fun f e => by cases e⟩
  | n + 1 => by
    obtain ⟨a, b⟩ := ffO_spec (D := D) (vs := vs) (t := t) n
    rw [ffO]
    cases e : ffO D vs t n with
    | some g =>
      obtain ⟨j, h1, h2, h3, h4⟩ := b g e
      refine ⟨fun z => (by cases z), fun f ef => ?_⟩
      injection ef with ef
      subst ef
      exact ⟨j, by omega, h2, h3, h4⟩
    | none =>
      have a' := a e
      by_cases c : t ≤ hrD D (gN vs n)
      · rw [if_pos c]
        refine ⟨fun z => (by cases z), fun f ef => ?_⟩
        injection ef with ef
        exact ⟨n, by omega, ef.symm, c, a'⟩
      · rw [if_neg c]
        refine ⟨fun _ i hi => ?_, fun f ef => by cases ef⟩
        by_cases z : i = n
        · subst z; exact c
        · exact a' i (by omega)
theorem shnR_spec {D : List LK} {vs : List Nat} {t : Int32} : ∀ n, (shnR D vs t n = none → ∀ i, i < n → ¬ hrD D (gN vs i) ≤ t) ∧ ∀ f, shnR D vs t n = some f → ∃ j, j < n ∧ f = gN vs j ∧ hrD D (gN vs j) ≤ t ∧ ∀ i, j < i → i < n → ¬ hrD D (gN vs i) ≤ t
  | 0 => ⟨fun _ i hi => by omega, fun f e => by cases e⟩
  | n + 1 => by
    obtain ⟨a, b⟩ := shnR_spec (D := D) (vs := vs) (t := t) n
    rw [shnR]
    by_cases c : hrD D (gN vs n) ≤ t
    · rw [if_pos c]
      refine ⟨fun z => (by cases z), fun f ef => ?_⟩
      injection ef with ef
      exact ⟨n, by omega, ef.symm, c, fun i h1 h2 => by omega⟩
    · rw [if_neg c]
      refine ⟨fun z i hi => ?_, fun f ef => ?_⟩
      · by_cases y : i = n
        · subst y; exact c
        · exact a z i (by omega)
      · obtain ⟨j, h1, h2, h3, h4⟩ := b f ef
        refine ⟨j, by omega, h2, h3, fun i h5 h6 => ?_⟩
        by_cases y : i = n
        · subst y; exact c
        · exact h4 i h5 (by omega)
theorem awR_iff {D : List LK} {cl : Int64} {vs : List Nat} {f : Nat} {a b : Int32} : ∀ n, awR D cl vs (some f) a b n = true ↔ ∀ i, i < n → a ≤ hrD D (gN vs i) → hrD D (gN vs i) ≤ b → alk D cl f (gN vs i) = true
  | 0 => ⟨fun _ i hi => by omega, fun _ => rfl⟩
  | n + 1 => by
    rw [awR, Bool.and_eq_true, awR_iff n, Option.any_some]
    constructor
    · rintro ⟨h1, h2⟩ i hi g1 g2
      by_cases c : i = n
      · subst c
        rw [decide_eq_true g1, decide_eq_true g2] at h2
        simpa using h2
      · exact h1 i (by omega) g1 g2
    · intro hh
      refine ⟨fun i hi => hh i (by omega), ?_⟩
      by_cases c1 : a ≤ hrD D (gN vs n)
      · by_cases c2 : hrD D (gN vs n) ≤ b
        · rw [hh n (by omega) c1 c2, Bool.or_true]
        · rw [decide_eq_false c2]; simp
      · rw [decide_eq_false c1]; simp
/-- what the reference goes through -/
theorem bwR_spec {D : List LK} {cl : Int64} {vs : List Nat} {a m b : Int32} : ∀ n, ((bwR D cl vs a m b n).2.1 = true ↔ ∃ i, i < n ∧ (a ≤ hrD D (gN vs i) ∧ hrD D (gN vs i) ≤ b) ∧ hrD D (gN vs i) ≤ m) ∧ ((bwR D cl vs a m b n).2.2.1 = true ↔ ∃ i, i < n ∧ (a ≤ hrD D (gN vs i) ∧ hrD D (gN vs i) ≤ b) ∧ m < hrD D (gN vs i)) ∧ ((bwR D cl vs a m b n).1 = none → (bwR D cl vs a m b n).2.2.2 = true ∧ ∀ i, i < n → ¬ (a ≤ hrD D (gN vs i) ∧ hrD D (gN vs i) ≤ b)) ∧ (∀ f, (bwR D cl vs a m b n).1 = some f → (∃ j, j < n ∧ f = gN vs j ∧ (a ≤ hrD D (gN vs j) ∧ hrD D (gN vs j) ≤ b) ∧ ∀ i, i < j → ¬ (a ≤ hrD D (gN vs i) ∧ hrD D (gN vs i) ≤ b)) ∧ ((bwR D cl vs a m b n).2.2.2 = true ↔ ∀ i, i < n → (a ≤ hrD D (gN vs i) ∧ hrD D (gN vs i) ≤ b) → alk D cl f (gN vs i) = true))
  | 0 => ⟨⟨fun e => (by cases e), fun ⟨i, hi, _⟩ => (by omega)⟩, ⟨fun e => (by cases e), fun ⟨i, hi, _⟩ => (by omega)⟩, fun _ => ⟨rfl, fun i hi => by omega⟩, fun f e => by cases e⟩
  | n + 1 => by
    obtain ⟨s1, s2, s3, s4⟩ := bwR_spec (D := D) (cl := cl) (vs := vs) (a := a) (m := m) (b := b) n
    rw [bwR]
    by_cases c : a ≤ hrD D (gN vs n) ∧ hrD D (gN vs n) ≤ b
    · rw [if_pos c]
      dsimp only
      refine ⟨?_, ?_, fun z => by simp at z, fun f ef => ?_⟩
      · rw [Bool.or_eq_true, decide_eq_true_eq, s1]
        constructor
        · rintro (⟨i, h1, h2⟩ | h1)
          · exact ⟨i, by omega, h2⟩
          · exact ⟨n, by omega, c, h1⟩
        · rintro ⟨i, h1, h2, h3⟩
          by_cases z : i = n
          · subst z; exact Or.inr h3
          · exact Or.inl ⟨i, by omega, h2, h3⟩
      · rw [Bool.or_eq_true, decide_eq_true_eq, s2]
        constructor
        · rintro (⟨i, h1, h2⟩ | h1)
          · exact ⟨i, by omega, h2⟩
          · exact ⟨n, by omega, c, h1⟩
        · rintro ⟨i, h1, h2, h3⟩
          by_cases z : i = n
          · subst z; exact Or.inr h3
          · exact Or.inl ⟨i, by omega, h2, h3⟩
      · cases e : (bwR D cl vs a m b n).1 with
        | none =>
          obtain ⟨g1, g2⟩ := s3 e
          rw [e] at ef
          have ef : gN vs n = f := by simpa using ef
          subst ef
          refine ⟨⟨n, by omega, rfl, c, g2⟩, ?_⟩
          rw [g1]
          constructor
          · intro _ i hi hw
            by_cases z : i = n
            · subst z; exact alk_refl _
            · exact absurd hw (g2 i (by omega))
          · intro _; rfl
        | some g =>
          obtain ⟨⟨j, h1, h2, h3, h4⟩, h5⟩ := s4 g e
          rw [e] at ef
          have ef : g = f := by simpa using ef
          subst ef
          refine ⟨⟨j, by omega, h2, h3, h4⟩, ?_⟩
          rw [Bool.and_eq_true, h5, Option.any_some]
          constructor
          · rintro ⟨k1, k2⟩ i hi hw
            by_cases z : i = n
            · subst z; simpa using k2
            · exact k1 i (by omega) hw
          · intro hh
            exact ⟨fun i hi hw => hh i (by omega) hw, by rw [hh n (by omega) c]; rfl⟩
    · rw [if_neg c]
      refine ⟨?_, ?_, fun z => ⟨(s3 z).1, fun i hi => ?_⟩, fun f ef => ?_⟩
      · rw [s1]
        constructor
        · rintro ⟨i, h1, h2⟩; exact ⟨i, by omega, h2⟩
        · rintro ⟨i, h1, h2, h3⟩
          by_cases z : i = n
          · subst z; exact absurd h2 c
          · exact ⟨i, by omega, h2, h3⟩
      · rw [s2]
        constructor
        · rintro ⟨i, h1, h2⟩; exact ⟨i, by omega, h2⟩
        · rintro ⟨i, h1, h2, h3⟩
          by_cases z : i = n
          · subst z; exact absurd h2 c
          · exact ⟨i, by omega, h2, h3⟩
      · by_cases y : i = n
        · subst y; exact c
        · exact (s3 z).2 i (by omega)
      · obtain ⟨⟨j, h1, h2, h3, h4⟩, h5⟩ := s4 f ef
        refine ⟨⟨j, by omega, h2, h3, h4⟩, ?_⟩
        rw [h5]
        constructor
        · intro hh i hi hw
          by_cases z : i = n
          · subst z; exact absurd hw c
          · exact hh i (by omega) hw
        · intro hh i hi hw
          exact hh i (by omega) hw
theorem bwB_iff (hv : Inv S) {a b m : Nat} (ham : a ≤ m) (hmb : m ≤ b) (hb : b ≤ 3000) : bwB (gD S) (gCl S) (vws (gD S) p) (nI a) (nI m) (nI b) = true ↔ ∃ f g, ffO (gD S) (vws (gD S) p) (nI a) (vws (gD S) p).length = some f ∧ shnR (gD S) (vws (gD S) p) (nI b) (vws (gD S) p).length = some g ∧ awR (gD S) (gCl S) (vws (gD S) p) (some f) (nI a) (nI b) (vws (gD S) p).length = true ∧ hN (gD S) f ≤ m ∧ m < hN (gD S) g := by
  have hn : ∀ i, i < (vws (gD S) p).length → hrD (gD S) (gN (vws (gD S) p) i) = nI (hN (gD S) (gN (vws (gD S) p) i)) ∧ hN (gD S) (gN (vws (gD S) p) i) ≤ 3000 := fun i hi => ⟨(hv.hn (vws_in hi).1).1, (hv.hn (vws_in hi).1).2.1⟩
  have hlt := fun i j h1 h2 => hv.hlt (p := p) (i := i) (j := j) h1 h2
  generalize vws (gD S) p = vs at hn hlt
  have cA : ∀ i, i < vs.length → (nI a ≤ hrD (gD S) (gN vs i) ↔ a ≤ hN (gD S) (gN vs i)) := fun i hi => by rw [(hn i hi).1]; have := (hn i hi).2; rw [nI_leI (by omega) (by omega)]
  have cB : ∀ i, i < vs.length → (hrD (gD S) (gN vs i) ≤ nI b ↔ hN (gD S) (gN vs i) ≤ b) := fun i hi => by rw [(hn i hi).1]; have := (hn i hi).2; rw [nI_leI (by omega) (by omega)]
  have cM : ∀ i, i < vs.length → (hrD (gD S) (gN vs i) ≤ nI m ↔ hN (gD S) (gN vs i) ≤ m) := fun i hi => by rw [(hn i hi).1]; have := (hn i hi).2; rw [nI_leI (by omega) (by omega)]
  have cM2 : ∀ i, i < vs.length → (nI m < hrD (gD S) (gN vs i) ↔ m < hN (gD S) (gN vs i)) := fun i hi => by rw [(hn i hi).1]; have := (hn i hi).2; rw [nI_ltI (by omega) (by omega)]
  obtain ⟨s1, s2, s3, s4⟩ := bwR_spec (D := gD S) (cl := gCl S) (vs := vs) (a := nI a) (m := nI m) (b := nI b) vs.length
  obtain ⟨f1, f2⟩ := ffO_spec (D := gD S) (vs := vs) (t := nI a) vs.length
  obtain ⟨g1, g2⟩ := shnR_spec (D := gD S) (vs := vs) (t := nI b) vs.length
  unfold bwB
  rw [Bool.and_eq_true, Bool.and_eq_true, s1, s2]
  constructor
  · rintro ⟨hs, ⟨i, hi, hw, him⟩, ⟨j, hj, hwj, hjm⟩⟩
    rw [cA i hi, cB i hi] at hw
    rw [cM i hi] at him
    rw [cA j hj, cB j hj] at hwj
    rw [cM2 j hj] at hjm
    cases ef : ffO (gD S) vs (nI a) vs.length with
    | none => exact absurd ((cA i hi).mpr hw.1) (f1 ef i hi)
    | some f =>
      cases eg : shnR (gD S) vs (nI b) vs.length with
      | none => exact absurd ((cB i hi).mpr hw.2) (g1 eg i hi)
      | some g =>
        obtain ⟨jf, h1, h2, h3, h4⟩ := f2 f ef
        obtain ⟨jg, k1, k2, k3, k4⟩ := g2 g eg
        have hfi : jf ≤ i := Nat.le_of_not_lt (fun z => h4 i z ((cA i hi).mpr hw.1))
        have hgj : j ≤ jg := Nat.le_of_not_lt (fun z => k4 j z hj ((cB j hj).mpr hwj.2))
        have hle1 : hN (gD S) (gN vs jf) ≤ hN (gD S) (gN vs i) := by
          by_cases z : jf = i
          · rw [z]; exact Nat.le_refl _
          · exact Nat.le_of_lt (hlt jf i (by omega) hi)
        have hle2 : hN (gD S) (gN vs j) ≤ hN (gD S) (gN vs jg) := by
          by_cases z : j = jg
          · rw [z]; exact Nat.le_refl _
          · exact Nat.le_of_lt (hlt j jg (by omega) k1)
        refine ⟨f, g, rfl, rfl, ?_, by rw [h2]; omega, by rw [k2]; omega⟩
        rw [awR_iff]
        cases e : (bwR (gD S) (gCl S) vs (nI a) (nI m) (nI b) vs.length).1 with
        | none => exact absurd ⟨(cA i hi).mpr hw.1, (cB i hi).mpr hw.2⟩ ((s3 e).2 i hi)
        | some f' =>
          obtain ⟨⟨j', m1, m2, m3, m4⟩, m5⟩ := s4 f' e
          have ej : jf = j' := by
            rcases Nat.lt_trichotomy jf j' with z | z | z
            · exfalso
              refine m4 jf z ⟨h3, ?_⟩
              rw [cB jf h1]; omega
            · exact z
            · exact absurd m3.1 (h4 j' z)
          have eff : f = f' := by rw [h2, m2, ej]
          subst eff
          exact fun i hi ga gb => m5.mp hs i hi ⟨ga, gb⟩
  · rintro ⟨f, g, ef, eg, ha, hm1, hm2⟩
    obtain ⟨jf, h1, h2, h3, h4⟩ := f2 f ef
    obtain ⟨jg, k1, k2, k3, k4⟩ := g2 g eg
    rw [h2] at hm1
    rw [k2] at hm2
    rw [cA jf h1] at h3
    rw [cB jg k1] at k3
    have wf : nI a ≤ hrD (gD S) (gN vs jf) ∧ hrD (gD S) (gN vs jf) ≤ nI b := ⟨(cA jf h1).mpr h3, (cB jf h1).mpr (by omega)⟩
    have wg : nI a ≤ hrD (gD S) (gN vs jg) ∧ hrD (gD S) (gN vs jg) ≤ nI b := ⟨(cA jg k1).mpr (by omega), (cB jg k1).mpr k3⟩
    refine ⟨?_, ⟨jf, h1, wf, (cM jf h1).mpr hm1⟩, ⟨jg, k1, wg, (cM2 jg k1).mpr hm2⟩⟩
    cases e : (bwR (gD S) (gCl S) vs (nI a) (nI m) (nI b) vs.length).1 with
    | none => exact absurd wf ((s3 e).2 jf h1)
    | some f' =>
      obtain ⟨⟨j', m1, m2, m3, m4⟩, m5⟩ := s4 f' e
      have ej : jf = j' := by
        rcases Nat.lt_trichotomy jf j' with z | z | z
        · exact absurd wf (m4 jf z)
        · exact z
        · exact absurd m3.1 (h4 j' z)
      have eff : f = f' := by rw [h2, m2, ej]
      subst eff
      rw [m5]
      rw [awR_iff] at ha
      exact fun i hi hw => ha i hi hw.1 hw.2
theorem bcR_iff (hv : Inv S) {st : Int32} {a b m : Nat} (ham : a ≤ m) (hmb : m ≤ b) (hb : b ≤ 3000) : ∀ n, n ≤ 12 → (bwAll S st (nI a) (nI m) (nI b) n = true ↔ ∃ M L, bcR S st a b n = some (M, L) ∧ M ≤ m ∧ m < L)
  | 0, _ => ⟨fun _ => ⟨a, b + 1, rfl, ham, by omega⟩, fun _ => rfl⟩
  | n + 1, hn => by
    rw [bwAll, Bool.and_eq_true, bcR_iff hv ham hmb hb n (by omega), bcR, Bool.or_eq_true, decide_eq_true_eq, b_get (by omega), bwB_iff hv ham hmb hb]
    constructor
    · rintro ⟨⟨M, L, e, h1, h2⟩, h3⟩
      rw [e]
      dsimp only
      cases c : bt st n with
      | false => rw [if_neg (by decide)]; exact ⟨M, L, rfl, h1, h2⟩
      | true =>
        rw [c] at h3
        obtain ⟨f, g, ef, eg, ha, k1, k2⟩ := h3.resolve_left (by decide)
        rw [if_pos rfl, ef, eg]
        dsimp only
        rw [if_pos ha]
        refine ⟨_, _, rfl, ?_, ?_⟩
        · split <;> omega
        · split <;> omega
    · rintro ⟨M, L, e, h1, h2⟩
      cases e0 : bcR S st a b n with
      | none => rw [e0] at e; cases e
      | some x =>
        obtain ⟨M0, L0⟩ := x
        rw [e0] at e
        dsimp only at e
        cases c : bt st n with
        | false =>
          rw [c, if_neg (by decide)] at e
          injection e with e
          injection e with e1 e2
          subst e1 e2
          exact ⟨⟨M0, L0, rfl, h1, h2⟩, Or.inl rfl⟩
        | true =>
          rw [c, if_pos rfl] at e
          cases ef : ffO (gD S) (vws (gD S) n) (nI a) (vws (gD S) n).length with
          | none => rw [ef] at e; cases e
          | some f =>
            cases eg : shnR (gD S) (vws (gD S) n) (nI b) (vws (gD S) n).length with
            | none => rw [ef, eg] at e; cases e
            | some g =>
              rw [ef, eg] at e
              dsimp only at e
              split at e
              · rename_i ha
                injection e with e
                injection e with e1 e2
                subst e1 e2
                refine ⟨⟨M0, L0, rfl, ?_, ?_⟩, Or.inr ⟨f, g, rfl, rfl, ha, ?_, ?_⟩⟩
                · split at h1 <;> omega
                · split at h2 <;> omega
                · split at h1 <;> omega
                · split at h2 <;> omega
              · cases e
theorem bcR_ge {st : Int32} {a b : Nat} : ∀ n M L, bcR S st a b n = some (M, L) → a ≤ M ∧ L ≤ b + 1
  | 0, M, L, e => by
    injection e with e
    injection e with e1 e2
    omega
  | n + 1, M, L, e => by
    rw [bcR] at e
    cases e0 : bcR S st a b n with
    | none => rw [e0] at e; cases e
    | some x =>
      obtain ⟨M0, L0⟩ := x
      have ih := bcR_ge n M0 L0 e0
      rw [e0] at e
      dsimp only at e
      split at e
      · split at e
        · split at e
          · injection e with e
            injection e with e1 e2
            subst e1 e2
            constructor <;> split <;> omega
          · cases e
        · cases e
      · injection e with e
        injection e with e1 e2
        omega
theorem bwS_eq (hv : Inv S) {st : Int32} {a b : Nat} (hb : b ≤ 3000) (h12 : (gDs S).length ≤ 12) : ∀ n m, m + n = b + 1 → a ≤ m → (∀ M L, bcR S st a b (gDs S).length = some (M, L) → m ≤ M ∨ L ≤ m) →
    bwS S st (nI a) (nI b) n (nI m) = match bcR S st a b (gDs S).length with
      | none => -1
      | some (M, L) => if m ≤ M ∧ M < L then nI M else -1
  | 0, m, hm, ham, hh => by
    rw [bwS]
    cases e : bcR S st a b (gDs S).length with
    | none => rfl
    | some x =>
      obtain ⟨M, L⟩ := x
      have := (bcR_ge _ M L e).2
      dsimp only
      rw [if_neg (by omega)]
  | n + 1, m, hm, ham, hh => by
    rw [bwS]
    have hi := bcR_iff hv (st := st) (a := a) (b := b) (m := m) ham (by omega) hb (gDs S).length h12
    by_cases c : bwAll S st (nI a) (nI m) (nI b) (gDs S).length = true
    · rw [if_pos c]
      obtain ⟨M, L, e, h1, h2⟩ := hi.mp c
      rw [e]
      dsimp only
      rcases hh M L e with z | z
      · rw [if_pos ⟨z, by omega⟩]; congr 1; omega
      · omega
    · rw [if_neg c, nI_1, bwS_eq hv hb h12 n (m + 1) (by omega) (by omega) (fun M L e => by
        rcases hh M L e with z | z
        · by_cases y : M = m
          · subst y
            by_cases y2 : M < L
            · exact absurd (hi.mpr ⟨M, L, e, Nat.le_refl _, y2⟩) c
            · right; omega
          · left; omega
        · right; omega)]
      cases e : bcR S st a b (gDs S).length with
      | none => rfl
      | some x =>
        obtain ⟨M, L⟩ := x
        dsimp only
        rcases hh M L e with z | z
        · by_cases y : M = m
          · subst y
            have : ¬ M < L := fun y2 => c (hi.mpr ⟨M, L, e, Nat.le_refl _, y2⟩)
            rw [if_neg (by omega), if_neg (by omega)]
          · by_cases y2 : M < L
            · rw [if_pos ⟨by omega, y2⟩, if_pos ⟨z, y2⟩]
            · rw [if_neg (fun w => y2 w.2), if_neg (fun w => y2 w.2)]
        · rw [if_neg (by omega), if_neg (by omega)]
end C11

