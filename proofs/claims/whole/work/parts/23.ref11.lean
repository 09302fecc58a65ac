/-! ===== the reference: houses, rates, likeness, shown, since, first, nowhere ===== -/
theorem nI_mul (a b : Nat) : nI a * nI b = nI (a * b) := (Int32.ofNat_mul a b).symm
theorem i32_sub0 {x y : Int32} (h : ¬ x = y) : ¬ x - y = 0 := fun z => h (by rw [← Int32.sub_add_cancel x y, z, Int32.zero_add])
theorem nI_prd {n : Nat} (h : 1 ≤ n) : nI n - 1 = nI (n - 1) := i32_sub_nI (a := 1) h
section R11
variable {l : Launch} {w : WD} {d : Nat} {h : AH} {Q : Option AV → AH → Prop} {S : SG}
theorem r_fv (hM : RM S h) {p : Nat} (hp : p < 2 ^ 31) (q : ∀ h', RM S h' → OM h h' → VR (gD S) (vws (gD S) p) h' → Q none h') : Con l w true (d + 3) HX9_findViews [vr 62, vi (nI p)] h 0 0 Q :=
  r_findViews hM.m3 hp (fun r _ hrow => q _ hM.v (OM.rf h).v (VR.of hM.m3 hrow))
theorem k_isHouse {x : Int32} (q1 : ∀ k, k ≤ 2 → x = nI k → (0 ≤ x ∧ x ≤ 2) → Q (some (vi 1)) h) (q2 : ¬ (0 ≤ x ∧ x ≤ 2) → Q (some (vi 0)) h) : Con l w true (d + 1) HX9_isHouse [vi x] h 0 0 Q := by
  refine Con.of ok_X9_isHouse (nones := []) rfl (by simp) ?_
  refine go ok_X9_isHouse ?_
  refine Cal.z (k_in (lo := 0) (hi := 2) rfl rfl (rfl) (fun c => ?_) (fun c => ?_))
  · refine go ok_X9_isHouse ?_
    refine And.intro (Or.inr rfl) ?_
    obtain ⟨k, hk, e⟩ := natOf (n := 2) (by decide) c.1 c.2
    exact q1 k hk e c
  · refine go ok_X9_isHouse ?_
    refine And.intro (Or.inl rfl) ?_
    exact q2 c
theorem r_lose (hM : RM S h) {a b : Int32} (q : ∀ h', RM (loseF S a b).2 h' → OM h h' → Q (some (vi (loseF S a b).1)) h') : Con l w true (d + 2) HX9_lose [vr 62, vi a, vi b] h 0 0 Q := by
  refine Con.of ok_X9_lose (nones := []) rfl (by simp) ?_
  refine Ex.lay (fun hy => ?_)
  refine go ok_X9_lose ?_
  refine Cal.z (k_isHouse (fun k hk ek c => ?_) (fun c => ?_))
  · rw [loseF, if_pos c] at q
    refine go ok_X9_lose ?_
    refine And.intro (fun c2 => ?_) (fun c2 => absurd c2 (by decide))
    refine go ok_X9_lose ?_
    refine Cal.z (k_in (lo := 0) (hi := 59) rfl rfl (rfl) (fun c => ?_) (fun c => ?_))
    · rw [if_pos c] at q
      subst ek
      have ec : (nI k).toNatClampNeg = k := nI_clamp (by omega)
      rw [ec] at q
      refine go ok_X9_lose ?_
      refine And.intro (fun c2 => ?_) (fun c2 => absurd c2 (by decide))
      refine go ok_X9_lose ?_
      refine And.intro (ix69 hy rfl (by omega)) ?_
      refine asAnd ?_
      rw [ec, hM.hs, show (gHs S).getD k 0 = hsD S k from rfl, lg_cmp_eq]
      refine And.intro (fun c3 => ?_) (fun c3 => ?_)
      · rw [if_neg c3] at q
        refine go ok_X9_lose ?_
        refine And.intro (ix69 hy rfl (by omega)) ?_
        refine asAnd ?_
        refine And.intro (ix69 hy rfl (by omega)) ?_
        rw [ec, hM.hs]
        refine q _ ?_ ?_
        · exact ⟨hM.1, hM.m2, hM.m3, rfl, hM.m5, hM.m6, hM.fl, hM.m8, hM.m9⟩
        · exact (OM.rf h).tl (by decide)
      · rw [if_pos c3] at q
        refine go ok_X9_lose ?_
        exact q _ hM (OM.rf h)
    · rw [if_neg c] at q
      refine go ok_X9_lose ?_
      refine And.intro (fun c2 => absurd c2 (by decide)) (fun c2 => ?_)
      refine go ok_X9_lose ?_
      exact q _ hM (OM.rf h)
  · rw [loseF, if_neg c] at q
    refine go ok_X9_lose ?_
    refine And.intro (fun c2 => absurd c2 (by decide)) (fun c2 => ?_)
    refine go ok_X9_lose ?_
    exact q _ hM (OM.rf h)
theorem r_words_in {a b acc : Int32} {off : Int64} {sz f : Nat} (hsz : f + sz ≤ 64) (q : Ex l w true mX9_words d Q 110 [some (vr 62), some (vi a), some (vi b), some (vl off), none, some (vi acc), some (vi (nI sz)), some (vi (nI f)), some (vi (b2i (difN off f sz))), some (vi (nI (f + sz)))] [] h 0 0) : ∀ n i, i + n = sz →
    Ex l w true mX9_words d Q 71 [some (vr 62), some (vi a), some (vi b), some (vl off), none, some (vi acc), some (vi (nI sz)), some (vi (nI f)), some (vi (b2i (difN off f i))), some (vi (nI (f + i)))] [] h 0 0 := by
  intro n
  induction n with
  | zero =>
    intro i hi
    have : i = sz := by omega
    subst this
    refine go ok_X9_words ?_
    refine asAnd ?_
    rw [nI_add, nI_leI (by omega) (by omega)]
    refine And.intro (fun c => ?_) (fun c => ?_)
    · exact q
    · omega
  | succ n ih =>
    intro i hi
    have k102 : ∀ bb : Bool, bb = difN off f (i + 1) → Ex l w true mX9_words d Q 102 [some (vr 62), some (vi a), some (vi b), some (vl off), none, some (vi acc), some (vi (nI sz)), some (vi (nI f)), some (vi (b2i (difN off f i))), some (vi (nI (f + i)))] [vi (b2i bb)] h 0 0 := by
      intro bb hb
      have hh := ih (i + 1) (by omega)
      rw [← hb, ← Nat.add_assoc, ← nI_1] at hh
      refine go ok_X9_words ?_
      exact hh
    refine go ok_X9_words ?_
    refine asAnd ?_
    rw [nI_add, nI_leI (by omega) (by omega)]
    refine And.intro (fun c => ?_) (fun c => ?_)
    · omega
    · refine go ok_X9_words ?_
      refine And.intro (fun c2 => ?_) (fun c2 => ?_)
      · refine go ok_X9_words ?_
        exact k102 true (by rw [difN, b2i_ne.mp c2]; rfl)
      · have c2' := b2i_eq.mp c2
        refine go ok_X9_words ?_
        refine asAnd ?_
        rw [lg_cmp_eq]
        refine And.intro (fun c3 => ?_) (fun c3 => ?_)
        · refine go ok_X9_words ?_
          exact k102 false (by rw [difN, c2', decide_eq_false c3]; rfl)
        · refine go ok_X9_words ?_
          exact k102 true (by rw [difN, decide_eq_true c3, Bool.or_true])
theorem r_words_mid {a b acc : Int32} {off : Int64} {sz cnt : Nat} (hsz : sz * cnt = 64) (hs1 : sz ≤ 64) (q : ∀ l8 l9, Ex l w true mX9_words d Q 135 [some (vr 62), some (vi a), some (vi b), some (vl off), none, some (vi (wrdB off sz acc cnt)), some (vi (nI sz)), some (vi 64), l8, l9] [] h 0 0) : ∀ n m l8 l9, m + n = cnt →
    Ex l w true mX9_words d Q 57 [some (vr 62), some (vi a), some (vi b), some (vl off), none, some (vi (wrdB off sz acc m)), some (vi (nI sz)), some (vi (nI (m * sz))), l8, l9] [] h 0 0 := by
  intro n
  induction n with
  | zero =>
    intro m l8 l9 hi
    have : m = cnt := by omega
    subst this
    have e : m * sz = 64 := by rw [Nat.mul_comm]; exact hsz
    rw [e]
    refine go ok_X9_words ?_
    refine And.intro (fun c => ?_) (fun c => absurd c (by decide))
    exact q l8 l9
  | succ n ih =>
    intro m l8 l9 hi
    have hm : m * sz + sz ≤ 64 := by
      have : (m + 1) * sz ≤ cnt * sz := Nat.mul_le_mul_right _ (by omega)
      rw [Nat.add_mul, Nat.one_mul, Nat.mul_comm cnt] at this
      omega
    refine go ok_X9_words ?_
    refine And.intro (fun c => ?_) (fun c => ?_)
    · replace c : nI 64 ≤ nI (m * sz) := c; rw [nI_leI (by omega) (by omega)] at c
      have : 0 < sz := by
        rcases Nat.eq_zero_or_pos sz with z | z
        · subst z; omega
        · exact z
      omega
    · refine go ok_X9_words ?_
      refine r_words_in (f := m * sz) hm ?_ sz 0 (by omega)
      have hh := fun l8 l9 => ih (m + 1) l8 l9 (by omega)
      simp only [wrdB, Nat.add_mul, Nat.one_mul, ← nI_add] at hh
      refine go ok_X9_words ?_
      refine And.intro (fun c2 => ?_) (fun c2 => ?_)
      · rw [if_neg (by rw [b2i_eq.mp c2]; decide)] at hh
        refine go ok_X9_words ?_
        exact hh _ _
      · rw [if_pos (b2i_ne.mp c2)] at hh
        refine go ok_X9_words ?_
        exact hh _ _
theorem r_words_out {a b : Int32} {off : Int64} (q : Q (some (vi (wrdJ off 6))) h) : ∀ n j l7 l8 l9, j + n = 6 →
    Ex l w true mX9_words d Q 48 [some (vr 62), some (vi a), some (vi b), some (vl off), none, some (vi (wrdJ off j)), some (vi (nI (2 ^ (6 - j)))), l7, l8, l9] [] h 0 0 := by
  intro n
  induction n with
  | zero =>
    intro j l7 l8 l9 hi
    have : j = 6 := by omega
    subst this
    refine go ok_X9_words ?_
    refine And.intro (fun c => ?_) (fun c => absurd c (by decide))
    refine go ok_X9_words ?_
    exact q
  | succ n ih =>
    intro j l7 l8 l9 hi
    have e1 : ∀ j, j < 6 → ¬ nI (2 ^ (6 - j)) ≤ 1 := by decide
    have e2 : ∀ j, j < 6 → nI (2 ^ (6 - j)) / 2 = nI (2 ^ (6 - (j + 1))) := by decide
    have e3 : ∀ j, j < 6 → 2 ^ (6 - j) * 2 ^ j = 64 := by decide
    have e4 : ∀ j, j < 6 → 2 ^ (6 - j) ≤ 64 := by decide
    refine go ok_X9_words ?_
    refine And.intro (fun c => ?_) (fun c => ?_)
    · exact absurd c (e1 j (by omega))
    · refine go ok_X9_words ?_
      have hm := r_words_mid (l := l) (w := w) (d := d) (h := h) (Q := Q) (a := a) (b := b) (acc := wrdJ off j) (off := off) (sz := 2 ^ (6 - j)) (cnt := 2 ^ j) (e3 j (by omega)) (e4 j (by omega)) ?_ (2 ^ j) 0 l8 l9 (by omega)
      · rw [Nat.zero_mul] at hm
        exact hm
      · intro l8 l9
        have hh := ih (j + 1) (some (vi 64)) l8 l9 (by omega)
        rw [← e2 j (by omega)] at hh
        refine go ok_X9_words ?_
        refine And.intro (by decide) ?_
        exact hh
theorem r_words (hM : RM S h) {a b : Int32} (q : Q (some (vi (wordsA S a b))) h) : Con l w true (d + 2) HX9_words [vr 62, vi a, vi b] h 0 0 Q := by
  refine Con.of ok_X9_words (nones := [none, none, none, none, none, none, none]) rfl (by simp) ?_
  refine Ex.lay (fun hy => ?_)
  refine go ok_X9_words ?_
  refine Cal.z (k_isHouse (fun k hk ek c => ?_) (fun c => ?_))
  · refine go ok_X9_words ?_
    refine And.intro (fun c2 => absurd c2 (by decide)) (fun c2 => ?_)
    refine go ok_X9_words ?_
    refine Cal.z (k_isHouse (fun j hj ej c3 => ?_) (fun c3 => ?_))
    · rw [wordsA, if_pos ⟨c, c3⟩] at q
      subst ek ej
      have ek : (nI k).toNatClampNeg = k := nI_clamp (by omega)
      have ej : (nI j).toNatClampNeg = j := nI_clamp (by omega)
      refine go ok_X9_words ?_
      refine And.intro (fun c2 => ?_) (fun c2 => absurd c2 (by decide))
      refine go ok_X9_words ?_
      refine And.intro (fun c4 => ?_) (fun c4 => ?_)
      · rw [if_neg c4, ek, ej] at q
        refine go ok_X9_words ?_
        refine And.intro (ix69 hy rfl (by omega)) ?_
        refine And.intro (ix69 hy rfl (by omega)) ?_
        rw [ek, ej, hM.hs]
        exact r_words_out q 6 0 _ _ _ rfl
      · rw [if_pos c4] at q
        refine go ok_X9_words ?_
        exact q
    · rw [wordsA, if_neg (fun z => c3 z.2)] at q
      refine go ok_X9_words ?_
      refine And.intro (fun c2 => absurd c2 (by decide)) (fun c2 => ?_)
      refine go ok_X9_words ?_
      exact q
  · rw [wordsA, if_neg (fun z => c z.1)] at q
    refine go ok_X9_words ?_
    refine And.intro (fun c2 => ?_) (fun c2 => absurd c2 (by decide))
    refine go ok_X9_words ?_
    exact q
theorem r_mend (hM : RM S h) (hv : Inv S) (q : ∀ h', RM (mendF S).2 h' → OM h h' → Q (some (vi (mendF S).1)) h') : Con l w true (d + 1) HX9_mend [vr 62] h 0 0 Q := by
  have h3 : (gHs S).length = 3 := hv.2.2.2.2.1
  obtain ⟨a, b, c, habc⟩ : ∃ a b c, gHs S = [a, b, c] := by
    match hL : gHs S, h3 with
    | [a, b, c], _ => exact ⟨a, b, c, rfl⟩
  have e69 : aL h 69 = [a, b, c] := hM.hs.trans habc
  have ea : hsAll S = a ||| b ||| c := by unfold hsAll hsD; rw [habc]; rfl
  have hq : Q (some (vi (mendF S).1)) (tL h 69 [a ||| b ||| c, a ||| b ||| c, a ||| b ||| c]) := by
    refine q _ ?_ ((OM.rf h).tl (by decide))
    refine ⟨hM.1, hM.m2, hM.m3, ?_, hM.m5, hM.m6, hM.fl, hM.m8, hM.m9⟩
    show [a ||| b ||| c, a ||| b ||| c, a ||| b ||| c] = [hsAll S, hsAll S, hsAll S]
    rw [ea]
  have e1 : (mendF S).1 = 0 + ons ((a ||| b ||| c) &&& (a ^^^ (-1))) + ons ((a ||| b ||| c) &&& (b ^^^ (-1))) + ons ((a ||| b ||| c) &&& (c ^^^ (-1))) := by unfold mendF; rw [ea]; unfold hsD; rw [habc]; rfl
  rw [e1] at hq
  refine Con.of ok_X9_mend (nones := [none, none, none, none]) rfl (by simp) ?_
  refine Ex.lay (fun hy => ?_)
  refine go ok_X9_mend ?_
  refine And.intro (ix69 hy (k := 0) rfl (by omega)) ?_
  refine And.intro (ix69 hy (k := 1) rfl (by omega)) ?_
  refine And.intro (ix69 hy (k := 2) rfl (by omega)) ?_
  rw [e69]
  refine Ex.lay (fun hy => ?_)
  refine go ok_X9_mend ?_
  refine And.intro (fun c1 => absurd c1 (by decide)) (fun c1 => ?_)
  refine go ok_X9_mend ?_
  refine And.intro (ix69 hy (k := 0) rfl (by omega)) ?_
  rw [e69]
  refine Cal.z (r_ones ?_)
  refine Ex.lay (fun hy => ?_)
  refine go ok_X9_mend ?_
  refine And.intro (ix69 hy (k := 0) rfl (by omega)) ?_
  rw [e69]
  refine Ex.lay (fun hy => ?_)
  refine go ok_X9_mend ?_
  refine And.intro (fun c1 => absurd c1 (by decide)) (fun c1 => ?_)
  refine go ok_X9_mend ?_
  refine And.intro (ix69 hy (k := 1) rfl (by omega)) ?_
  refine Cal.z (r_ones ?_)
  refine go ok_X9_mend ?_
  refine And.intro (ix69 hy (k := 1) rfl (by omega)) ?_
  rw [aL_tL, if_pos rfl, tL_tL]
  refine Ex.lay (fun hy => ?_)
  refine go ok_X9_mend ?_
  refine And.intro (fun c1 => absurd c1 (by decide)) (fun c1 => ?_)
  refine go ok_X9_mend ?_
  refine And.intro (ix69 hy (k := 2) rfl (by omega)) ?_
  refine Cal.z (r_ones ?_)
  refine go ok_X9_mend ?_
  refine And.intro (ix69 hy (k := 2) rfl (by omega)) ?_
  rw [aL_tL, if_pos rfl, tL_tL]
  refine go ok_X9_mend ?_
  refine And.intro (fun c1 => ?_) (fun c1 => absurd c1 (by decide))
  refine go ok_X9_mend ?_
  exact hq
end R11

