/-! ===== the class: state; it is the reference's ===== -/
section C4
variable {l : Launch} {w : WD} {d : Nat} {h : AH} {Q : Option AV → AH → Prop} {S : SG} {G : GH} {p : Nat}
theorem ffO_in {D : List LK} {vs : List Nat} {t : Int32} : ∀ (i k : Nat), ffO D vs t i = some k → ∃ j, j < i ∧ k = gN vs j
  | 0, k, e => by cases e
  | i + 1, k, e => by
    rw [ffO] at e
    cases e2 : ffO D vs t i with
    | some f =>
      rw [e2] at e
      obtain ⟨j, hj, a⟩ := ffO_in i f e2
      injection e with e
      exact ⟨j, by omega, by rw [← e]; exact a⟩
    | none =>
      rw [e2] at e
      split at e
      · injection e with e; exact ⟨i, by omega, e.symm⟩
      · cases e
theorem c_couldUnclaimed (hc : RC S G h) (hv : Inv S) (hp : p < (gDs S).length) {k : Nat} (hk : k < (gD S).length) (hvk : isV (gD S) k = true) {t : Int32} (q : Q (some (vi (b2i (cuC (gD S) (gCl S) (vws (gD S) p) k t)))) h) : Con l w true (d + 4) HX2_couldUnclaimed [vr (gN (gPa G) p), vr (gN (gLa G) k), vi t, vr (hR h 583 32)] h 0 0 Q := by
  obtain ⟨t4, hf⟩ := hc.fv hp
  have hlu := fun q => c_lastUpTo (l := l) (w := w) (d := d) (h := h) (Q := q) hc hp (t := t)
  have hff := fun q => c_firstFrom (l := l) (w := w) (d := d) (h := h) (Q := q) hc hp (t := t)
  generalize vws (gD S) p = vs at hf q hlu hff
  have hs : ∀ f, shnR (gD S) vs t vs.length = some f → f < (gD S).length ∧ isV (gD S) f = true := fun f e => by
    obtain ⟨j, hj, ej⟩ := shnR_in _ f e
    rw [ej]; exact hf.2 j hj
  have hs2 : ∀ f, ffO (gD S) vs t vs.length = some f → f < (gD S).length ∧ isV (gD S) f = true := fun f e => by
    obtain ⟨j, hj, ej⟩ := ffO_in _ f e
    rw [ej]; exact hf.2 j hj
  unfold cuC at q
  refine Con.of ok_X2_couldUnclaimed (nones := [none, none]) rfl (by simp) ?_
  refine go ok_X2_couldUnclaimed ?_
  refine And.intro t4 ?_
  refine Cal.z (hlu _ ?_)
  refine go ok_X2_couldUnclaimed ?_
  refine And.intro t4 ?_
  refine Cal.z (hff _ ?_)
  generalize shnR (gD S) vs t vs.length = o1 at q hs
  generalize ffO (gD S) vs t vs.length = o2 at q hs2
  have k29 : o1.any (alk (gD S) (gCl S) k) = false → Ex l w true mX2_couldUnclaimed (d + 4) Q 29 [some (vr (gN (gPa G) p)), some (vr (gN (gLa G) k)), some (vi t), some (vr (hR h 583 32)), some (vr (oa (gLa G) o1)), some (vr (oa (gLa G) o2))] [] h 0 0 := by
    intro e
    rw [e, Bool.false_or] at q
    cases o2 with
    | none =>
      refine go ok_X2_couldUnclaimed ?_
      refine And.intro (fun _ => ?_) (fun c => absurd rfl c)
      refine go ok_X2_couldUnclaimed ?_
      refine And.intro (Or.inl rfl) ?_
      exact q
    | some f =>
      obtain ⟨f1, f2⟩ := hs2 f rfl
      refine go ok_X2_couldUnclaimed ?_
      refine And.intro (fun c => absurd c (hc.la0 f1)) (fun _ => ?_)
      refine go ok_X2_couldUnclaimed ?_
      refine And.intro hc.rt.1 ?_
      refine Cal.z (c_sameForm hc hv hk f1 hvk f2 ?_)
      rw [Option.any_some] at q
      refine go ok_X2_couldUnclaimed ?_
      refine And.intro (fun c => ?_) (fun c => ?_)
      · rw [b2i_eq.mp c] at q
        refine go ok_X2_couldUnclaimed ?_
        refine And.intro (Or.inl rfl) ?_
        exact q
      · rw [b2i_ne.mp c] at q
        refine go ok_X2_couldUnclaimed ?_
        refine And.intro (Or.inr rfl) ?_
        exact q
  cases o1 with
  | none =>
    refine go ok_X2_couldUnclaimed ?_
    refine And.intro (fun _ => ?_) (fun c => absurd rfl c)
    exact k29 rfl
  | some f =>
    obtain ⟨f1, f2⟩ := hs f rfl
    refine go ok_X2_couldUnclaimed ?_
    refine And.intro (fun c => absurd c (hc.la0 f1)) (fun _ => ?_)
    refine go ok_X2_couldUnclaimed ?_
    refine And.intro hc.rt.1 ?_
    refine Cal.z (c_sameForm hc hv hk f1 hvk f2 ?_)
    refine go ok_X2_couldUnclaimed ?_
    refine And.intro (fun c => ?_) (fun c => ?_)
    · rw [Option.any_some, b2i_ne.mp c] at q
      refine go ok_X2_couldUnclaimed ?_
      refine And.intro (Or.inr rfl) ?_
      exact q
    · exact k29 (by rw [Option.any_some, b2i_eq.mp c])
theorem b2i_or (a b : Bool) : b2i a ||| b2i b = b2i (a || b) := by cases a <;> cases b <;> decide
theorem c_stateAtC (hc : RC S G h) (hv : Inv S) (hp : p < (gDs S).length) {k : Nat} (hk : k < (gD S).length) (hvk : isV (gD S) k = true) {t : Int32} (q : Q (some (vi (stC (gD S) (gCl S) (gPt S) (vws (gD S) p) k t))) h) : Con l w true (d + 5) HX2_stateAt [vr (gN (gPa G) p), vr (gN (gLa G) k), vi t, vr (hR h 583 32)] h 0 0 Q := by
  obtain ⟨t4, hf⟩ := hc.fv hp
  have h150 := hf.len
  have hcl := fun i hi q => c_claims (l := l) (w := w) (d := d + 1) (h := h) (Q := q) hc hv hp (i := i) hi (t := t)
  have hcu := fun q => c_couldUnclaimed (l := l) (w := w) (d := d) (h := h) (Q := q) hc hv hp hk hvk (t := t)
  generalize vws (gD S) p = vs at hf q h150 hcl hcu
  have fin : Ex l w true mX2_stateAt (d + 5) Q 83 [some (vr (gN (gPa G) p)), some (vr (gN (gLa G) k)), some (vi t), some (vr (hR h 583 32)), some (vi (b2i (lkT (gD S) (gCl S) (gPt S) vs k t vs.length))), some (vi (b2i (lkU (gD S) (gCl S) (gPt S) vs k t vs.length))), some (vi (nI vs.length)), none] [] h 0 0 ∧ ∀ v7 : Int32, Ex l w true mX2_stateAt (d + 5) Q 83 [some (vr (gN (gPa G) p)), some (vr (gN (gLa G) k)), some (vi t), some (vr (hR h 583 32)), some (vi (b2i (lkT (gD S) (gCl S) (gPt S) vs k t vs.length))), some (vi (b2i (lkU (gD S) (gCl S) (gPt S) vs k t vs.length))), some (vi (nI vs.length)), some (vi v7)] [] h 0 0 := by
    have gen : ∀ l7 : Option AV, Ex l w true mX2_stateAt (d + 5) Q 83 [some (vr (gN (gPa G) p)), some (vr (gN (gLa G) k)), some (vi t), some (vr (hR h 583 32)), some (vi (b2i (lkT (gD S) (gCl S) (gPt S) vs k t vs.length))), some (vi (b2i (lkU (gD S) (gCl S) (gPt S) vs k t vs.length))), some (vi (nI vs.length)), l7] [] h 0 0 := by
      intro l7
      unfold stC at q
      generalize lkT (gD S) (gCl S) (gPt S) vs k t vs.length = b1 at q
      generalize lkU (gD S) (gCl S) (gPt S) vs k t vs.length = b2 at q
      cases b1 with
      | true =>
        rw [if_neg (fun z => by cases z.1), if_neg (by decide)] at q
        refine go ok_X2_stateAt ?_
        refine And.intro (fun c => ?_) (fun c => absurd c (by decide))
        refine go ok_X2_stateAt ?_
        refine And.intro (fun c2 => ?_) (fun c2 => absurd c2 (by decide))
        refine go ok_X2_stateAt ?_
        cases b2 with
        | true =>
          rw [if_pos rfl] at q
          refine And.intro (fun c3 => absurd c3 (by decide)) (fun c3 => ?_)
          refine go ok_X2_stateAt ?_
          exact q
        | false =>
          rw [if_neg (by decide)] at q
          refine And.intro (fun c3 => ?_) (fun c3 => absurd c3 (by decide))
          refine go ok_X2_stateAt ?_
          exact q
      | false =>
        cases b2 with
        | true =>
          rw [if_neg (fun z => by cases z.2), if_pos rfl] at q
          refine go ok_X2_stateAt ?_
          refine And.intro (fun c => absurd c (by decide)) (fun c => ?_)
          refine go ok_X2_stateAt ?_
          refine And.intro (fun c2 => ?_) (fun c2 => absurd c2 (by decide))
          refine go ok_X2_stateAt ?_
          refine And.intro (fun c3 => absurd c3 (by decide)) (fun c3 => ?_)
          refine go ok_X2_stateAt ?_
          exact q
        | false =>
          rw [if_pos ⟨rfl, rfl⟩] at q
          refine go ok_X2_stateAt ?_
          refine And.intro (fun c => absurd c (by decide)) (fun c => ?_)
          refine go ok_X2_stateAt ?_
          refine And.intro (fun c2 => absurd c2 (by decide)) (fun c2 => ?_)
          refine go ok_X2_stateAt ?_
          refine And.intro t4 ?_
          refine Cal.z (hcu _ ?_)
          refine go ok_X2_stateAt ?_
          refine And.intro (fun c3 => ?_) (fun c3 => ?_)
          · rw [b2i_eq.mp c3] at q
            refine go ok_X2_stateAt ?_
            exact q
          · rw [b2i_ne.mp c3] at q
            refine go ok_X2_stateAt ?_
            exact q
    exact ⟨gen _, fun _ => gen _⟩
  have lp : ∀ n i l7, (l7 = none ∨ ∃ v7 : Int32, l7 = some (vi v7)) → i + n = vs.length → Ex l w true mX2_stateAt (d + 5) Q 9 [some (vr (gN (gPa G) p)), some (vr (gN (gLa G) k)), some (vi t), some (vr (hR h 583 32)), some (vi (b2i (lkT (gD S) (gCl S) (gPt S) vs k t i))), some (vi (b2i (lkU (gD S) (gCl S) (gPt S) vs k t i))), some (vi (nI i)), l7] [] h 0 0 := by
    intro n
    induction n with
    | zero =>
      intro i l7 h7 hi
      have : i = vs.length := by omega
      subst this
      refine go ok_X2_stateAt ?_
      refine And.intro t4 ?_
      refine asAnd ?_
      refine And.intro hf.1.1 ?_
      refine Cal.z (hf.size ?_)
      refine go ok_X2_stateAt ?_
      refine asAnd ?_
      rw [nI_leI (by omega) (by omega)]
      refine And.intro (fun c => ?_) (fun c => ?_)
      · rcases h7 with rfl | ⟨v, rfl⟩
        · exact fin.1
        · exact fin.2 v
      · omega
    | succ n ih =>
      intro i l7 h7 hi
      have hlt : i < vs.length := by omega
      obtain ⟨l1, v1⟩ := hf.2 i hlt
      have hh := fun l7 h7 => ih (i + 1) l7 h7 (by omega)
      simp only [lkT, lkU, ← nI_1] at hh
      refine go ok_X2_stateAt ?_
      refine And.intro t4 ?_
      refine asAnd ?_
      refine And.intro hf.1.1 ?_
      refine Cal.z (hf.size ?_)
      refine go ok_X2_stateAt ?_
      refine asAnd ?_
      rw [nI_leI (by omega) (by omega)]
      refine And.intro (fun c => ?_) (fun c => ?_)
      · omega
      · refine go ok_X2_stateAt ?_
        refine And.intro t4 ?_
        refine Cal.z (hcl i hlt _ ?_)
        refine go ok_X2_stateAt ?_
        refine And.intro (fun c2 => ?_) (fun c2 => ?_)
        · simp only [b2i_eq.mp c2, Bool.false_and, Bool.or_false] at hh
          refine go ok_X2_stateAt ?_
          exact hh l7 h7
        · simp only [b2i_ne.mp c2, Bool.true_and, ← b2i_or] at hh
          refine go ok_X2_stateAt ?_
          refine And.intro t4 ?_
          refine asAnd ?_
          refine And.intro hf.1.1 ?_
          refine Cal.z (hf.get hlt ?_)
          refine go ok_X2_stateAt ?_
          refine And.intro (Or.inr (hf.t3 hc hlt)) ?_
          refine asAnd ?_
          refine And.intro hc.rt.1 ?_
          refine Cal.z (c_sameForm hc hv hk l1 hvk v1 ?_)
          refine go ok_X2_stateAt ?_
          refine And.intro (fun c3 => ?_) (fun c3 => ?_)
          · simp only [b2i_ne.mp c3] at hh ⊢
            refine go ok_X2_stateAt ?_
            refine go ok_X2_stateAt ?_
            exact hh _ (Or.inr ⟨_, rfl⟩)
          · simp only [b2i_eq.mp c3] at hh ⊢
            refine go ok_X2_stateAt ?_
            refine go ok_X2_stateAt ?_
            exact hh _ (Or.inr ⟨_, rfl⟩)
  refine Con.of ok_X2_stateAt (nones := [none, none, none, none]) rfl (by simp) ?_
  refine go ok_X2_stateAt ?_
  exact lp vs.length 0 none (Or.inl rfl) (by omega)
/-! ===== alike, as an equivalence; the state is the reference's ===== -/
theorem alk_refl {D : List LK} {cl : Int64} (a : Nat) : alk D cl a a = true := by simp [alk]
theorem alk_symm {D : List LK} {cl : Int64} {a b : Nat} (h : alk D cl a b = true) : alk D cl b a = true := by
  unfold alk at *
  simp only [Bool.and_eq_true, Bool.or_eq_true, decide_eq_true_eq] at *
  obtain ⟨h1, h2⟩ := h
  refine ⟨h1.symm, ?_⟩
  rcases h2 with z | z
  · exact Or.inl (h1 ▸ z)
  · exact Or.inr z.symm
theorem alk_trans {D : List LK} {cl : Int64} {a b c : Nat} (h : alk D cl a b = true) (h' : alk D cl b c = true) : alk D cl a c = true := by
  unfold alk at *
  simp only [Bool.and_eq_true, Bool.or_eq_true, decide_eq_true_eq] at *
  refine ⟨h.1.trans h'.1, ?_⟩
  rcases h.2 with z | z
  · exact Or.inl z
  · rcases h'.2 with y | y
    · exact Or.inl (h.1.trans y)
    · exact Or.inr (z.trans y)
theorem lkT_iff {D : List LK} {cl : Int64} {pt : Int32} {vs : List Nat} {k : Nat} {t : Int32} : ∀ n, lkT D cl pt vs k t n = true ↔ ∃ i, i < n ∧ clm D cl pt vs t i = true ∧ alk D cl k (gN vs i) = true
  | 0 => ⟨fun e => (by cases e), fun ⟨i, hi, _⟩ => (by omega)⟩
  | n + 1 => by
    rw [lkT, Bool.or_eq_true, Bool.and_eq_true, lkT_iff n]
    constructor
    · rintro (⟨i, h1, h2⟩ | h)
      · exact ⟨i, by omega, h2⟩
      · exact ⟨n, by omega, h⟩
    · rintro ⟨i, h1, h2⟩
      by_cases c : i = n
      · subst c; exact Or.inr h2
      · exact Or.inl ⟨i, by omega, h2⟩
theorem lkU_iff {D : List LK} {cl : Int64} {pt : Int32} {vs : List Nat} {k : Nat} {t : Int32} : ∀ n, lkU D cl pt vs k t n = true ↔ ∃ i, i < n ∧ clm D cl pt vs t i = true ∧ alk D cl k (gN vs i) = false
  | 0 => ⟨fun e => (by cases e), fun ⟨i, hi, _⟩ => (by omega)⟩
  | n + 1 => by
    rw [lkU, Bool.or_eq_true, Bool.and_eq_true, Bool.not_eq_true', lkU_iff n]
    constructor
    · rintro (⟨i, h1, h2⟩ | h)
      · exact ⟨i, by omega, h2⟩
      · exact ⟨n, by omega, h⟩
    · rintro ⟨i, h1, h2⟩
      by_cases c : i = n
      · subst c; exact Or.inr h2
      · exact Or.inl ⟨i, by omega, h2⟩
/-- the first that claims; whether one is unlike it -/
theorem surR_spec {D : List LK} {cl : Int64} {pt : Int32} {vs : List Nat} {t : Int32} : ∀ n, ((surR D cl pt vs t n).1 = none → (surR D cl pt vs t n).2 = false ∧ ∀ i, i < n → clm D cl pt vs t i = false) ∧ (∀ f, (surR D cl pt vs t n).1 = some f → (∃ i, i < n ∧ clm D cl pt vs t i = true ∧ f = gN vs i) ∧ ((surR D cl pt vs t n).2 = false → ∀ i, i < n → clm D cl pt vs t i = true → alk D cl f (gN vs i) = true) ∧ ((surR D cl pt vs t n).2 = true → ∃ i, i < n ∧ clm D cl pt vs t i = true ∧ alk D cl f (gN vs i) = false))
  | 0 => ⟨fun _ => ⟨rfl, fun i hi => by omega⟩, fun f e => by cases e⟩
  | n + 1 => by
    obtain ⟨a, b⟩ := surR_spec (D := D) (cl := cl) (pt := pt) (vs := vs) (t := t) n
    rw [surR]
    by_cases c : clm D cl pt vs t n = true
    · rw [if_pos c]
      dsimp only
      cases e : (surR D cl pt vs t n).1 with
      | none =>
        obtain ⟨a1, a2⟩ := a e
        refine ⟨fun z => by simp at z, fun f ef => ?_⟩
        have ef : gN vs n = f := by simpa using ef
        subst ef
        refine ⟨⟨n, by omega, c, rfl⟩, fun _ i hi hci => ?_, fun z => ?_⟩
        · by_cases y : i = n
          · subst y; exact alk_refl _
          · rw [a2 i (by omega)] at hci; cases hci
        · rw [a1] at z; cases z
      | some g =>
        obtain ⟨⟨i0, h1, h2, h3⟩, b2, b3⟩ := b g e
        refine ⟨fun z => by simp at z, fun f ef => ?_⟩
        have ef : g = f := by simpa using ef
        subst ef
        rw [Option.any_some]
        refine ⟨⟨i0, by omega, h2, h3⟩, fun z i hi hci => ?_, fun z => ?_⟩
        · rw [Bool.or_eq_false_iff] at z
          by_cases y : i = n
          · subst y; simpa using z.2
          · exact b2 z.1 i (by omega) hci
        · rw [Bool.or_eq_true] at z
          rcases z with z | z
          · obtain ⟨i, y1, y2⟩ := b3 z
            exact ⟨i, by omega, y2⟩
          · exact ⟨n, by omega, c, by simpa using z⟩
    · rw [if_neg c]
      have c' : clm D cl pt vs t n = false := by simpa using c
      refine ⟨fun z => ⟨(a z).1, fun i hi => ?_⟩, fun f ef => ?_⟩
      · by_cases y : i = n
        · subst y; exact c'
        · exact (a z).2 i (by omega)
      · obtain ⟨⟨i0, h1, h2⟩, b2, b3⟩ := b f ef
        refine ⟨⟨i0, by omega, h2⟩, fun z i hi hci => ?_, fun z => ?_⟩
        · by_cases y : i = n
          · subst y; rw [c'] at hci; cases hci
          · exact b2 z i (by omega) hci
        · obtain ⟨i, y1, y2⟩ := b3 z
          exact ⟨i, by omega, y2⟩
theorem befR_shn {D : List LK} {vs : List Nat} {t : Int32} : ∀ n, (∀ i, i < n → ¬ hrD D (gN vs i) = t) → befR D vs t n = shnR D vs t n
  | 0, _ => rfl
  | n + 1, h => by
    rw [befR, shnR, befR_shn n (fun i hi => h i (by omega))]
    have h0 := h n (by omega)
    by_cases c : hrD D (gN vs n) < t
    · rw [if_pos c, if_pos (Int32.le_of_lt c)]
    · rw [if_neg c, if_neg (fun z => c (by
        rw [Int32.lt_iff_toInt_lt]
        rw [Int32.le_iff_toInt_le] at z
        have : (hrD D (gN vs n)).toInt ≠ t.toInt := fun y => h0 (Int32.toInt_inj.mp y)
        omega))]
theorem aftR_ff {D : List LK} {vs : List Nat} {t : Int32} : ∀ n, (∀ i, i < n → ¬ hrD D (gN vs i) = t) → aftR D vs t n = ffO D vs t n
  | 0, _ => rfl
  | n + 1, h => by
    have ih := aftR_ff n (fun i hi => h i (by omega))
    have h0 := h n (by omega)
    rw [aftR, ffO, ← ih]
    have e : (t < hrD D (gN vs n)) ↔ (t ≤ hrD D (gN vs n)) := by
      rw [Int32.lt_iff_toInt_lt, Int32.le_iff_toInt_le]
      have : (hrD D (gN vs n)).toInt ≠ t.toInt := fun y => h0 (Int32.toInt_inj.mp y)
      omega
    cases e2 : aftR D vs t n with
    | some f =>
      rw [if_neg (fun z => by have := z.1; simp at this)]; rfl
    | none =>
      by_cases c : t < hrD D (gN vs n)
      · rw [if_pos ⟨rfl, c⟩, if_pos (e.mp c)]; rfl
      · rw [if_neg (fun z => c z.2), if_neg (fun z => c (e.mpr z))]; rfl
theorem stC_eq (hv : Inv S) {k : Nat} {t : Int32} : stC (gD S) (gCl S) (gPt S) (vws (gD S) p) k t = stateR (gD S) (gCl S) (gPt S) (vws (gD S) p) k t := by
  have hvs : ∀ i, i < (vws (gD S) p).length → gN (vws (gD S) p) i < (gD S).length ∧ isV (gD S) (gN (vws (gD S) p) i) = true := fun i hi => ⟨(vws_in hi).1, (vws_in hi).2.2⟩
  generalize vws (gD S) p = vs at hvs
  obtain ⟨sp1, sp2⟩ := surR_spec (D := gD S) (cl := gCl S) (pt := gPt S) (vs := vs) (t := t) vs.length
  have iT := lkT_iff (D := gD S) (cl := gCl S) (pt := gPt S) (vs := vs) (k := k) (t := t) vs.length
  have iU := lkU_iff (D := gD S) (cl := gCl S) (pt := gPt S) (vs := vs) (k := k) (t := t) vs.length
  unfold stC stateR
  cases e1 : (surR (gD S) (gCl S) (gPt S) vs t vs.length).1 with
  | none =>
    obtain ⟨q1, q2⟩ := sp1 e1
    have f1 : lkT (gD S) (gCl S) (gPt S) vs k t vs.length = false := by
      rw [Bool.eq_false_iff]; intro z
      obtain ⟨i, h1, h2, -⟩ := iT.mp z
      rw [q2 i h1] at h2; cases h2
    have f2 : lkU (gD S) (gCl S) (gPt S) vs k t vs.length = false := by
      rw [Bool.eq_false_iff]; intro z
      obtain ⟨i, h1, h2, -⟩ := iU.mp z
      rw [q2 i h1] at h2; cases h2
    rw [if_pos ⟨f1, f2⟩, q1, if_neg (by decide)]
    dsimp only
    unfold couldR cuC
    rw [if_neg (by decide)]
    have hne : ∀ i, i < vs.length → ¬ hrD (gD S) (gN vs i) = t := fun i hi z => by
      have h1 := q2 i hi
      unfold clm at h1
      rw [Bool.or_eq_false_iff] at h1
      have h2 := h1.1
      rw [z] at h2
      have h3 : fromD (gD S) (gN vs i) ≤ t := by
        unfold fromD
        split
        · rw [z]; exact Int32.le_refl _
        · rw [← z]; exact (hv.lk (hvs i hi).1).2.2.2.2.1.2
      rw [decide_eq_true h3, decide_eq_true (Int32.le_refl t)] at h2
      cases h2
    rw [befR_shn _ hne, aftR_ff _ hne]
  | some f =>
    obtain ⟨⟨i0, h1, h2, h3⟩, g1, g2⟩ := sp2 f e1
    cases e2 : (surR (gD S) (gCl S) (gPt S) vs t vs.length).2 with
    | true =>
      obtain ⟨i1, y1, y2, y3⟩ := g2 e2
      have f2 : lkU (gD S) (gCl S) (gPt S) vs k t vs.length = true := by
        rw [iU]
        cases z : alk (gD S) (gCl S) k f with
        | false => exact ⟨i0, h1, h2, by rw [← h3]; exact z⟩
        | true =>
          refine ⟨i1, y1, y2, ?_⟩
          rw [Bool.eq_false_iff]; intro z2
          rw [alk_trans (alk_symm z) z2] at y3; cases y3
      rw [if_neg (fun z => by rw [f2] at z; cases z.2), if_pos rfl, f2, if_pos rfl]
      unfold couldR
      rw [if_pos rfl]
      have e3 : (List.range vs.length).any (fun i => clm (gD S) (gCl S) (gPt S) vs t i && alk (gD S) (gCl S) k (gN vs i)) = lkT (gD S) (gCl S) (gPt S) vs k t vs.length := by
        rw [Bool.eq_iff_iff, List.any_eq_true, iT]
        constructor
        · rintro ⟨i, a, b⟩
          rw [Bool.and_eq_true] at b
          exact ⟨i, List.mem_range.mp a, b⟩
        · rintro ⟨i, a, b⟩
          exact ⟨i, List.mem_range.mpr a, by rw [Bool.and_eq_true]; exact b⟩
      rw [e3]
      cases lkT (gD S) (gCl S) (gPt S) vs k t vs.length <;> rfl
    | false =>
      have g1' := g1 e2
      cases z : alk (gD S) (gCl S) k f with
      | true =>
        have f1 : lkT (gD S) (gCl S) (gPt S) vs k t vs.length = true := by rw [iT]; exact ⟨i0, h1, h2, by rw [← h3]; exact z⟩
        have f2 : lkU (gD S) (gCl S) (gPt S) vs k t vs.length = false := by
          rw [Bool.eq_false_iff]; intro y
          obtain ⟨i, a1, a2, a3⟩ := iU.mp y
          rw [alk_trans z (g1' i a1 a2)] at a3; cases a3
        rw [f1, f2]; show _ = (if alk (gD S) (gCl S) k f = true then (2 : Int32) else 0); rw [z]; rfl
      | false =>
        have f1 : lkT (gD S) (gCl S) (gPt S) vs k t vs.length = false := by
          rw [Bool.eq_false_iff]; intro y
          obtain ⟨i, a1, a2, a3⟩ := iT.mp y
          rw [alk_trans a3 (alk_symm (g1' i a1 a2))] at z; cases z
        have f2 : lkU (gD S) (gCl S) (gPt S) vs k t vs.length = true := by rw [iU]; exact ⟨i0, h1, h2, by rw [← h3]; exact z⟩
        rw [f1, f2]; show _ = (if alk (gD S) (gCl S) k f = true then (2 : Int32) else 0); rw [z]; rfl
theorem c_stateAt (hc : RC S G h) (hv : Inv S) {k : Nat} (hk : k < (gD S).length) (hvk : isV (gD S) k = true) {t : Int32} (q : Q (some (vi (staS S k t))) h) : Con l w true (d + 5) HX2_stateAt [vr (gN (gPa G) (pgD (gD S) k)), vr (gN (gLa G) k), vi t, vr (hR h 583 32)] h 0 0 Q := by
  refine c_stateAtC hc hv (hv.pg hk) hk hvk ?_
  rw [stC_eq hv]
  exact q
end C4

