/-! ===== the class: since, first, nowhere, likeness, moved ===== -/
section C6
variable {l : Launch} {w : WD} {d : Nat} {h : AH} {Q : Option AV → AH → Prop} {S : SG} {G : GH} {p : Nat}
/-- where the saying begins, as the class goes -/
def sfR (D : List LK) (pc : Int32) (vs : List Nat) (fr : Int32) : Nat → Int32
  | 0 => fr
  | k + 1 => if hasB D pc (gN vs k) = true then sfR D pc vs (nI k) k else fr
theorem sfR_eq {D : List LK} {pc : Int32} {vs : List Nat} : ∀ k, sfR D pc vs (nI k) k = nI (snR D pc vs k)
  | 0 => rfl
  | k + 1 => by
    rw [sfR, snR]
    split
    · exact sfR_eq k
    · rfl
theorem sfR_0 {D : List LK} {pc : Int32} {vs : List Nat} : sfR D pc vs (-1) vs.length = if vs.length = 0 ∨ hasB D pc (gN vs (vs.length - 1)) = false then -1 else nI (snR D pc vs (vs.length - 1)) := by
  cases hn : vs.length with
  | zero => rw [if_pos (Or.inl rfl)]; rfl
  | succ n =>
    rw [sfR, show n + 1 - 1 = n from rfl]
    by_cases c : hasB D pc (gN vs n) = true
    · rw [if_pos c, if_neg (fun z => by rcases z with z | z; omega; rw [z] at c; cases c), sfR_eq]
    · rw [if_neg c, if_pos (Or.inr (by simpa using c))]
theorem snR_le {D : List LK} {pc : Int32} {vs : List Nat} : ∀ k, snR D pc vs k ≤ k
  | 0 => Nat.le_refl _
  | k + 1 => by
    rw [snR]
    split
    · have := snR_le (D := D) (pc := pc) (vs := vs) k; omega
    · exact Nat.le_refl _
theorem c_sayingFrom (hc : RC S G h) (hp : p < (gDs S).length) {pc : Int32} (hpc : 0 ≤ pc ∧ pc ≤ 59) (q : Q (some (vi (sfR (gD S) pc (vws (gD S) p) (-1) (vws (gD S) p).length))) h) : Con l w true (d + 3) HX2_sayingFrom [vr (gN (gPa G) p), vi pc] h 0 0 Q := by
  obtain ⟨t4, hf⟩ := hc.fv hp
  have h150 := hf.len
  generalize vws (gD S) p = vs at hf q h150
  have lp : ∀ k fr, k ≤ vs.length → sfR (gD S) pc vs (-1) vs.length = sfR (gD S) pc vs fr k → Ex l w true mX2_sayingFrom (d + 3) Q 14 [some (vr (gN (gPa G) p)), some (vi pc), some (vi fr), some (vi (nI k - 1))] [] h 0 0 := by
    intro k
    induction k with
    | zero =>
      intro fr hk e
      rw [e] at q
      refine go ok_X2_sayingFrom ?_
      refine And.intro (fun c => ?_) (fun c => absurd c (by decide))
      refine go ok_X2_sayingFrom ?_
      exact q
    | succ k ih =>
      intro fr hk e
      rw [nI_prd (n := k + 1) (by omega), show k + 1 - 1 = k from rfl]
      refine go ok_X2_sayingFrom ?_
      refine And.intro (fun c => absurd c (nI_pos (by omega))) (fun c => ?_)
      refine go ok_X2_sayingFrom ?_
      refine And.intro t4 ?_
      refine asAnd ?_
      refine And.intro hf.1.1 ?_
      refine Cal.z (hf.get (i := k) (by omega) ?_)
      refine go ok_X2_sayingFrom ?_
      refine And.intro (Or.inr (hf.t3 hc (by omega))) ?_
      refine asAnd ?_
      refine And.intro (hf.t3 hc (by omega)) ?_
      refine Cal.z (c_has hc (hf.2 k (by omega)).1 hpc ?_)
      rw [sfR] at e
      refine go ok_X2_sayingFrom ?_
      refine And.intro (fun c2 => ?_) (fun c2 => ?_)
      · rw [if_neg (by rw [b2i_eq.mp c2]; decide)] at e
        rw [e] at q
        refine go ok_X2_sayingFrom ?_
        exact q
      · rw [if_pos (b2i_ne.mp c2)] at e
        have hh := ih (nI k) (by omega) e
        rw [Int32.sub_eq_add_neg] at hh
        refine go ok_X2_sayingFrom ?_
        exact hh
  refine Con.of ok_X2_sayingFrom (nones := [none, none]) rfl (by simp) ?_
  refine go ok_X2_sayingFrom ?_
  refine And.intro t4 ?_
  refine asAnd ?_
  refine And.intro hf.1.1 ?_
  refine Cal.z (hf.size ?_)
  refine go ok_X2_sayingFrom ?_
  exact lp vs.length (-1) (Nat.le_refl _) rfl
theorem c_latest (hc : RC S G h) (hv : Inv S) (hp : p < (gDs S).length) {i : Nat} (hi : i < (vws (gD S) p).length) (q : Q (some (vi (fromD (gD S) (gN (vws (gD S) p) i)))) h) : Con l w true (d + 3) HX2_latest [vr (gN (gPa G) p), vi (nI i)] h 0 0 Q := by
  obtain ⟨t4, hf⟩ := hc.fv hp
  have h150 := hf.len
  generalize vws (gD S) p = vs at hf q h150 hi
  refine Con.of ok_X2_latest (nones := []) rfl (by simp) ?_
  refine go ok_X2_latest ?_
  refine And.intro (fun c => absurd c (nI_pos (by omega))) (fun c => ?_)
  refine go ok_X2_latest ?_
  refine And.intro t4 ?_
  refine asAnd ?_
  refine And.intro hf.1.1 ?_
  refine Cal.z (hf.size ?_)
  refine go ok_X2_latest ?_
  refine asAnd ?_
  rw [nI_ltI (by omega) (by omega)]
  refine And.intro (fun c2 => ?_) (fun c2 => ?_)
  · refine go ok_X2_latest ?_
    refine And.intro t4 ?_
    refine asAnd ?_
    refine And.intro hf.1.1 ?_
    refine Cal.z (hf.get hi ?_)
    refine go ok_X2_latest ?_
    refine And.intro (Or.inr (hf.t3 hc hi)) ?_
    refine asAnd ?_
    refine And.intro (hf.t3 hc hi) ?_
    refine Cal.z (c_start hc hv (hf.2 i hi).1 (hf.2 i hi).2 ?_)
    refine go ok_X2_latest ?_
    exact q
  · omega
theorem Inv.from0 (hv : Inv S) {k : Nat} (hk : k < (gD S).length) : 0 ≤ fromD (gD S) k ∧ fromD (gD S) k ≤ 3000 := by
  obtain ⟨-, ⟨a1, a2⟩, -, -, ⟨b1, b2⟩, -⟩ := hv.lk hk
  replace a1 : 0 ≤ hrD (gD S) k := a1
  replace b2 : dtD (gD S) k ≤ hrD (gD S) k := b2
  have a3 : hrD (gD S) k ≤ 3000 := Int32.le_trans a2 hv.1.2
  unfold fromD
  split
  · exact ⟨a1, a3⟩
  · rename_i c
    exact ⟨by simpa using c, Int32.le_trans b2 a3⟩
theorem c_earliest (hc : RC S G h) (hv : Inv S) (hp : p < (gDs S).length) {i : Nat} (hi : i < (vws (gD S) p).length) (q : Q (some (vi (erlD (gD S) (vws (gD S) p) i))) h) : Con l w true (d + 4) HX2_earliest [vr (gN (gPa G) p), vi (nI i)] h 0 0 Q := by
  obtain ⟨t4, hf⟩ := hc.fv hp
  have h150 := hf.len
  have hla := fun q => c_latest (l := l) (w := w) (d := d) (h := h) (Q := q) hc hv hp (i := i) hi
  generalize vws (gD S) p = vs at hf q h150 hi hla
  unfold erlD eaD at q
  refine Con.of ok_X2_earliest (nones := []) rfl (by simp) ?_
  refine go ok_X2_earliest ?_
  refine And.intro (fun c => ?_) (fun c => ?_)
  · replace c : nI i < nI 1 := c
    rw [nI_ltI (by omega) (by omega)] at c
    have : i = 0 := by omega
    subst this
    rw [if_pos rfl] at q
    refine go ok_X2_earliest ?_
    refine Qv q ?_
    split
    · rfl
    · rename_i c2
      have := (hv.from0 (hf.2 0 hi).1).1
      exact Int32.le_antisymm (by simpa using c2) this
  · replace c : ¬ nI i < nI 1 := c
    rw [nI_ltI (by omega) (by omega)] at c
    rw [if_neg (show ¬ i = 0 by omega)] at q
    refine go ok_X2_earliest ?_
    refine And.intro t4 ?_
    refine asAnd ?_
    refine And.intro hf.1.1 ?_
    refine Cal.z (hf.size ?_)
    refine go ok_X2_earliest ?_
    refine asAnd ?_
    rw [nI_ltI (by omega) (by omega)]
    refine And.intro (fun c2 => ?_) (fun c2 => ?_)
    · refine go ok_X2_earliest ?_
      refine And.intro t4 ?_
      refine Cal.z (hla _ ?_)
      refine go ok_X2_earliest ?_
      refine And.intro t4 ?_
      refine asAnd ?_
      refine And.intro hf.1.1 ?_
      refine asCal ?_
      rw [nI_prd (by omega)]
      refine Cal.z (hf.get (i := i - 1) (by omega) ?_)
      refine go ok_X2_earliest ?_
      refine And.intro (Or.inr (hf.t3 hc (by omega))) ?_
      refine asAnd ?_
      refine And.intro (hf.t3 hc (by omega)) ?_
      rw [(hc.lks.2 _ (hf.2 (i - 1) (by omega)).1).2.2.2.1]
      exact q
    · omega
theorem c_since (hc : RC S G h) (hv : Inv S) {x pc y : Int32} (q : Q (some (vi (sinceA S x pc y))) h) : Con l w true (d + 5) HX8_since [vr 32, vi x, vi pc, vi y] h 0 0 Q := by
  refine Con.of ok_X8_since (nones := [none, none]) rfl (by simp) ?_
  refine go ok_X8_since ?_
  refine Cal.z (k_pageAt hc (fun e => ?_) (fun k hk ek e hn => ?_))
  · rw [sinceA, e] at q
    refine go ok_X8_since ?_
    refine And.intro (fun c => absurd c (by decide)) (fun c => ?_)
    refine go ok_X8_since ?_
    exact q
  · subst ek
    rw [sinceA, e] at q
    dsimp only at q
    have k32 : ¬ ((0 ≤ pc ∧ pc ≤ 59) ∧ (0 ≤ y ∧ y ≤ 1)) → Ex l w true mX8_since (d + 5) Q 32 [some (vr 32), some (vi (nI k)), some (vi pc), some (vi y), some (vr (gN (gPa G) k)), none] [] h 0 0 := by
      intro c
      rw [if_neg c] at q
      refine go ok_X8_since ?_
      exact q
    have hlen := (hc.fv hk).2.len
    refine go ok_X8_since ?_
    refine And.intro (fun _ => ?_) (fun c => absurd c hn)
    refine go ok_X8_since ?_
    refine Cal.z (k_isPiece (fun c => ?_) (fun c => ?_))
    · refine go ok_X8_since ?_
      refine And.intro (fun c2 => absurd c2 (by decide)) (fun c2 => ?_)
      refine go ok_X8_since ?_
      refine And.intro (fun c3 => ?_) (fun c3 => ?_)
      · exact k32 (fun z => absurd z.2.1 (by simpa using c3))
      · refine go ok_X8_since ?_
        refine And.intro (fun c4 => ?_) (fun c4 => ?_)
        · rw [if_pos ⟨c, by simpa using c3, c4⟩] at q
          refine go ok_X8_since ?_
          refine And.intro (hc.pv hk) ?_
          refine Cal.z (c_sayingFrom hc hk c ?_)
          rw [sfR_0]
          by_cases c5 : (vws (gD S) k).length = 0 ∨ hasB (gD S) pc (gN (vws (gD S) k) ((vws (gD S) k).length - 1)) = false
          · rw [if_pos c5] at q ⊢
            refine go ok_X8_since ?_
            refine And.intro (fun c6 => absurd c6 (by decide)) (fun c6 => ?_)
            refine go ok_X8_since ?_
            exact q
          · rw [if_neg c5] at q ⊢
            have hsn := snR_le (D := gD S) (pc := pc) (vs := vws (gD S) k) ((vws (gD S) k).length - 1)
            have hlt : snR (gD S) pc (vws (gD S) k) ((vws (gD S) k).length - 1) < (vws (gD S) k).length := by
              have : ¬ (vws (gD S) k).length = 0 := fun z => c5 (Or.inl z)
              omega
            refine go ok_X8_since ?_
            refine And.intro (fun _ => ?_) (fun c6 => ?_)
            · refine go ok_X8_since ?_
              refine And.intro (fun c7 => ?_) (fun c7 => ?_)
              · rw [if_neg c7] at q
                refine go ok_X8_since ?_
                refine And.intro (hc.pv hk) ?_
                refine Cal.z (c_latest hc hv hk hlt ?_)
                refine go ok_X8_since ?_
                exact q
              · rw [if_pos c7] at q
                refine go ok_X8_since ?_
                refine And.intro (hc.pv hk) ?_
                refine Cal.z (c_earliest hc hv hk hlt ?_)
                refine go ok_X8_since ?_
                exact q
            · have h1 := nI_pos' (n := snR (gD S) pc (vws (gD S) k) ((vws (gD S) k).length - 1)) (by omega)
              rw [show nI (snR (gD S) pc (vws (gD S) k) ((vws (gD S) k).length - 1)) = -1 from c6] at h1
              exact absurd h1 (by decide)
        · exact k32 (fun z => c4 z.2.2)
    · refine go ok_X8_since ?_
      refine And.intro (fun c2 => ?_) (fun c2 => absurd c2 (by decide))
      exact k32 (fun z => c z.1)
theorem c_firstWith (hc : RC S G h) (hp : p < (gDs S).length) {pc : Int32} (hpc : 0 ≤ pc ∧ pc ≤ 59) (q : Q (some (vi (oi (fwP S pc p)))) h) : Con l w true (d + 3) HX2_firstWith [vr (gN (gPa G) p), vi pc] h 0 0 Q := by
  obtain ⟨t4, hf⟩ := hc.fv hp
  have h150 := hf.len
  unfold fwP at q
  generalize vws (gD S) p = vs at hf q h150
  have lp : ∀ n i, i + n = vs.length → fwO (gD S) pc vs i = none → Ex l w true mX2_firstWith (d + 3) Q 2 [some (vr (gN (gPa G) p)), some (vi pc), some (vi (nI i))] [] h 0 0 := by
    intro n
    induction n with
    | zero =>
      intro i hi e
      have : i = vs.length := by omega
      subst this
      rw [e] at q
      refine go ok_X2_firstWith ?_
      refine And.intro t4 ?_
      refine asAnd ?_
      refine And.intro hf.1.1 ?_
      refine Cal.z (hf.size ?_)
      refine go ok_X2_firstWith ?_
      refine asAnd ?_
      rw [nI_leI (by omega) (by omega)]
      refine And.intro (fun c => ?_) (fun c => ?_)
      · refine go ok_X2_firstWith ?_
        exact q
      · omega
    | succ n ih =>
      intro i hi e
      refine go ok_X2_firstWith ?_
      refine And.intro t4 ?_
      refine asAnd ?_
      refine And.intro hf.1.1 ?_
      refine Cal.z (hf.size ?_)
      refine go ok_X2_firstWith ?_
      refine asAnd ?_
      rw [nI_leI (by omega) (by omega)]
      refine And.intro (fun c => ?_) (fun c => ?_)
      · omega
      · refine go ok_X2_firstWith ?_
        refine And.intro t4 ?_
        refine asAnd ?_
        refine And.intro hf.1.1 ?_
        refine Cal.z (hf.get (i := i) (by omega) ?_)
        refine go ok_X2_firstWith ?_
        refine And.intro (Or.inr (hf.t3 hc (by omega))) ?_
        refine asAnd ?_
        refine And.intro (hf.t3 hc (by omega)) ?_
        refine Cal.z (c_has hc (hf.2 i (by omega)).1 hpc ?_)
        refine go ok_X2_firstWith ?_
        refine And.intro (fun c2 => ?_) (fun c2 => ?_)
        · have hh := ih (i + 1) (by omega) (by rw [fwO, e, if_neg (by rw [b2i_eq.mp c2]; decide)]; rfl)
          rw [← nI_1] at hh
          refine go ok_X2_firstWith ?_
          exact hh
        · have e2 : fwO (gD S) pc vs (i + 1) = some i := by rw [fwO, e, if_pos (b2i_ne.mp c2)]; rfl
          have e3 : ∀ m, fwO (gD S) pc vs (i + 1 + m) = some i := by
            intro m
            induction m with
            | zero => exact e2
            | succ m ihm => rw [← Nat.add_assoc, fwO, ihm]; rfl
          have e4 := e3 n
          rw [show i + 1 + n = vs.length by omega] at e4
          rw [e4] at q
          refine go ok_X2_firstWith ?_
          exact q
  refine Con.of ok_X2_firstWith (nones := [none]) rfl (by simp) ?_
  refine go ok_X2_firstWith ?_
  exact lp vs.length 0 (by omega) rfl
/-- the least latest, as the class goes -/
def leaC (S : SG) (pc : Int32) : Nat → Int32
  | 0 => 3000
  | p + 1 => match fwP S pc p with
    | none => leaC S pc p
    | some i => if fromD (gD S) (gN (vws (gD S) p) i) < leaC S pc p then fromD (gD S) (gN (vws (gD S) p) i) else leaC S pc p
theorem leaC_eq (hv : Inv S) {pc : Int32} : ∀ n, leaC S pc n = leaR S pc n ∨ (leaC S pc n = 3000 ∧ leaR S pc n = 3001 ∧ ∀ p, p < n → fwP S pc p = none)
  | 0 => Or.inr ⟨rfl, rfl, fun p hp => by omega⟩
  | n + 1 => by
    rw [leaC, leaR]
    cases e : fwP S pc n with
    | none =>
      dsimp only
      rcases leaC_eq hv (pc := pc) n with h | ⟨h1, h2, h3⟩
      · exact Or.inl h
      · refine Or.inr ⟨h1, h2, fun p hp => ?_⟩
        by_cases c : p = n
        · subst c; exact e
        · exact h3 p (by omega)
    | some i =>
      dsimp only
      rcases leaC_eq hv (pc := pc) n with h | ⟨h1, h2, h3⟩
      · rw [h]; exact Or.inl rfl
      · obtain ⟨hi, -⟩ := fwO_lt _ i e
        obtain ⟨-, hb⟩ := hv.from0 (vws_in hi).1
        rw [h1, h2]
        generalize fromD (gD S) (gN (vws (gD S) n) i) = x at hb
        left
        have hx : x < 3001 := by rw [Int32.lt_iff_toInt_lt]; rw [Int32.le_iff_toInt_le] at hb; simp at hb ⊢; omega
        rw [if_pos hx]
        split
        · rfl
        · rename_i c; exact Int32.le_antisymm (by simpa using c) hb
theorem fstR_none {pc le : Int32} : ∀ n, (∀ p, p < n → fwP S pc p = none) → fstR S pc le n = 0
  | 0, _ => rfl
  | n + 1, h => by
    rw [fstR, fstR_none n (fun p hp => h p (by omega)), fstB, h n (by omega)]
    dsimp only
    show (0 : Int32) ||| ((0 : Int32) <<< (nI n &&& 31)) = 0
    apply b_ext
    intro i hi
    rw [b_or, b_0, Bool.false_or]
    unfold bt
    rw [Int32.toBitVec_shiftLeft]
    simp
theorem firstA_C (hv : Inv S) {pc : Int32} : fstR S pc (leaC S pc (gDs S).length) (gDs S).length = fstR S pc (leaR S pc (gDs S).length) (gDs S).length := by
  rcases leaC_eq hv (pc := pc) (gDs S).length with h | ⟨-, -, h3⟩
  · rw [h]
  · rw [fstR_none _ h3, fstR_none _ h3]
theorem RC.pget (hc : RC S G h) {i : Nat} (hi : i < (gDs S).length) (q : Q (some (vr (gN (gPa G) i))) h) : Con l w true (d + 2) HJx4a65c_get_915e3 [vr 33, vi (nI i)] h 0 0 Q := j_get hc.pg (by rw [hc.pgs.1]; exact hi) q
theorem RC.psize (hc : RC S G h) (q : Q (some (vi (nI (gDs S).length))) h) : Con l w true d HJx4a65c_size_8abf5 [vr 33] h 0 0 Q := j_size hc.pg (by rw [hc.pgs.1]; exact q)
theorem c_first (hc : RC S G h) (hv : Inv S) {pc : Int32} (q : Q (some (vi (firstA S pc))) h) : Con l w true (d + 5) HX8_first [vr 32, vi pc] h 0 0 Q := by
  have h12 := hc.pgs.2.1
  have hv5 : ∀ {i : Nat}, i < (gDs S).length → (vws (gD S) i).length ≤ 150 := fun hi => (hc.fv hi).2.len
  refine Con.of ok_X8_first (nones := [none, none, none, none]) rfl (by simp) ?_
  refine go ok_X8_first ?_
  refine Cal.z (k_isPiece (fun c => ?_) (fun c => ?_))
  · rw [firstA, if_pos c, ← firstA_C hv] at q
    refine go ok_X8_first ?_
    refine And.intro (fun c2 => ?_) (fun c2 => absurd c2 (by decide))
    have lp2 : ∀ n i l5 le, le = leaC S pc (gDs S).length → i + n = (gDs S).length → Ex l w true mX8_first (d + 5) Q 89 [some (vr 32), some (vi pc), some (vi le), some (vi (fstR S pc le i)), some (vi (nI i)), l5] [] h 0 0 := by
      intro n
      induction n with
      | zero =>
        intro i l5 le hle hi
        have : i = (gDs S).length := by omega
        subst this hle
        refine go ok_X8_first ?_
        refine And.intro hc.pg.1 ?_
        refine Cal.z (hc.psize ?_)
        refine go ok_X8_first ?_
        refine asAnd ?_
        rw [nI_leI (by omega) (by omega)]
        refine And.intro (fun c3 => ?_) (fun c3 => ?_)
        · refine go ok_X8_first ?_
          exact q
        · omega
      | succ n ih =>
        intro i l5 le hle hi
        have hh := fun l5 => ih (i + 1) l5 le hle (by omega)
        simp only [fstR, fstB, ← nI_1] at hh
        have hlen := hv5 (i := i) (by omega)
        refine go ok_X8_first ?_
        refine And.intro hc.pg.1 ?_
        refine Cal.z (hc.psize ?_)
        refine go ok_X8_first ?_
        refine asAnd ?_
        rw [nI_leI (by omega) (by omega)]
        refine And.intro (fun c3 => ?_) (fun c3 => ?_)
        · omega
        · refine go ok_X8_first ?_
          refine And.intro hc.pg.1 ?_
          refine Cal.z (hc.pget (i := i) (by omega) ?_)
          refine go ok_X8_first ?_
          refine And.intro (Or.inr (hc.pv (by omega))) ?_
          refine asAnd ?_
          refine And.intro (hc.pv (by omega)) ?_
          refine Cal.z (c_firstWith hc (by omega) c ?_)
          have e0 : fstR S pc le i ||| ((0 : Int32) <<< (nI i &&& 31)) = fstR S pc le i := by
            apply b_ext
            intro j hj
            rw [b_or]
            have : bt ((0 : Int32) <<< (nI i &&& 31)) j = false := by unfold bt; rw [Int32.toBitVec_shiftLeft]; simp
            rw [this, Bool.or_false]
          cases e : fwP S pc i with
          | none =>
            simp only [e, b2i_f, e0] at hh
            refine go ok_X8_first ?_
            refine And.intro (fun _ => ?_) (fun c4 => absurd rfl c4)
            refine go ok_X8_first ?_
            exact hh _
          | some j =>
            simp only [e] at hh
            have hj := (fwO_lt _ j e).1
            rw [oi_some]
            refine go ok_X8_first ?_
            refine And.intro (fun c4 => ?_) (fun _ => ?_)
            · have h1 := nI_pos' (n := j) (by omega)
              rw [show nI j = -1 from c4] at h1
              exact absurd h1 (by decide)
            · refine go ok_X8_first ?_
              refine And.intro hc.pg.1 ?_
              refine Cal.z (hc.pget (i := i) (by omega) ?_)
              refine go ok_X8_first ?_
              refine And.intro (Or.inr (hc.pv (by omega))) ?_
              refine asAnd ?_
              refine And.intro (hc.pv (by omega)) ?_
              refine Cal.z (c_earliest hc hv (by omega) hj ?_)
              refine go ok_X8_first ?_
              refine And.intro (fun c5 => ?_) (fun c5 => ?_)
              · simp only [decide_eq_false (show ¬ erlD (gD S) (vws (gD S) i) j ≤ le by simpa using c5), b2i_f, e0] at hh
                refine go ok_X8_first ?_
                exact hh _
              · simp only [decide_eq_true (show erlD (gD S) (vws (gD S) i) j ≤ le by simpa using c5), b2i_t] at hh
                refine go ok_X8_first ?_
                refine go ok_X8_first ?_
                exact hh _
    have lp1 : ∀ n i l4, i + n = (gDs S).length → Ex l w true mX8_first (d + 5) Q 17 [some (vr 32), some (vi pc), some (vi (leaC S pc i)), some (vi (nI i)), l4, none] [] h 0 0 := by
      intro n
      induction n with
      | zero =>
        intro i l4 hi
        have : i = (gDs S).length := by omega
        subst this
        refine go ok_X8_first ?_
        refine And.intro hc.pg.1 ?_
        refine Cal.z (hc.psize ?_)
        refine go ok_X8_first ?_
        refine asAnd ?_
        rw [nI_leI (by omega) (by omega)]
        refine And.intro (fun c3 => ?_) (fun c3 => ?_)
        · refine go ok_X8_first ?_
          exact lp2 (gDs S).length 0 _ _ rfl (by omega)
        · omega
      | succ n ih =>
        intro i l4 hi
        have hh := fun l4 => ih (i + 1) l4 (by omega)
        simp only [leaC, ← nI_1] at hh
        have hlen := hv5 (i := i) (by omega)
        refine go ok_X8_first ?_
        refine And.intro hc.pg.1 ?_
        refine Cal.z (hc.psize ?_)
        refine go ok_X8_first ?_
        refine asAnd ?_
        rw [nI_leI (by omega) (by omega)]
        refine And.intro (fun c3 => ?_) (fun c3 => ?_)
        · omega
        · refine go ok_X8_first ?_
          refine And.intro hc.pg.1 ?_
          refine Cal.z (hc.pget (i := i) (by omega) ?_)
          refine go ok_X8_first ?_
          refine And.intro (Or.inr (hc.pv (by omega))) ?_
          refine asAnd ?_
          refine And.intro (hc.pv (by omega)) ?_
          refine Cal.z (c_firstWith hc (by omega) c ?_)
          cases e : fwP S pc i with
          | none =>
            simp only [e] at hh
            refine go ok_X8_first ?_
            refine And.intro (fun _ => ?_) (fun c4 => absurd rfl c4)
            refine go ok_X8_first ?_
            exact hh _
          | some j =>
            simp only [e] at hh
            have hj := (fwO_lt _ j e).1
            rw [oi_some]
            refine go ok_X8_first ?_
            refine And.intro (fun c4 => ?_) (fun _ => ?_)
            · have h1 := nI_pos' (n := j) (by omega)
              rw [show nI j = -1 from c4] at h1
              exact absurd h1 (by decide)
            · refine go ok_X8_first ?_
              refine And.intro hc.pg.1 ?_
              refine Cal.z (hc.pget (i := i) (by omega) ?_)
              refine go ok_X8_first ?_
              refine And.intro (Or.inr (hc.pv (by omega))) ?_
              refine asAnd ?_
              refine And.intro (hc.pv (by omega)) ?_
              refine Cal.z (c_latest hc hv (by omega) hj ?_)
              refine go ok_X8_first ?_
              refine go ok_X8_first ?_
              exact hh _
    refine go ok_X8_first ?_
    exact lp1 (gDs S).length 0 _ (by omega)
  · rw [firstA, if_neg c] at q
    refine go ok_X8_first ?_
    refine And.intro (fun c2 => absurd c2 (by decide)) (fun c2 => ?_)
    refine go ok_X8_first ?_
    exact q
end C6

