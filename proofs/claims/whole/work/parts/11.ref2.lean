/-! ===== the reference: views ===== -/
def isX (D : List LK) (x : Int32) : Bool := if x < 0 then false else isV D x.toNatClampNeg
theorem isX_nI {D : List LK} {k : Nat} (hk : k < 2 ^ 31) : isX D (nI k) = isV D k := by
  unfold isX
  rw [if_neg (nI_pos hk), nI_clamp hk]
theorem isX_out {D : List LK} {x : Int32} (hn : ¬ ∃ k, k < D.length ∧ x = nI k) : isX D x = false := by
  unfold isX
  split
  · rfl
  · rename_i h0
    obtain ⟨k, hk, rfl⟩ := nI_of h0
    rw [nI_clamp hk]
    have : ¬ k < D.length := fun z => hn ⟨k, z, rfl⟩
    unfold isV
    simp [this]
theorem isX_inv {D : List LK} {x : Int32} (hD : D.length ≤ 100) (hx : isX D x = true) : ∃ k, k < D.length ∧ x = nI k ∧ isV D k = true := by
  by_cases hn : ∃ k, k < D.length ∧ x = nI k
  · obtain ⟨k, hk, rfl⟩ := hn
    refine ⟨k, hk, rfl, ?_⟩
    unfold isX at hx
    split at hx
    · cases hx
    · rename_i h0
      obtain ⟨j, hj, e⟩ := nI_of h0
      by_cases hk2 : k < 2 ^ 31
      · rw [nI_clamp hk2] at hx; exact hx
      · omega
  · rw [isX_out hn] at hx; cases hx
/-- the reference's row of views -/
def vw (h : AH) (rw : List Int32) (v : Int32) : AH := (hC h, up2 (hI h) 656 62 v, hL h, hR h, up1 (aI h) 72 rw, aL h, aR h, hZ h)
theorem up1_up1 {α : Type} (f : Nat → α) (a : Nat) (v v' : α) : up1 (up1 f a v) a v' = up1 f a v' := by
  funext b
  unfold up1
  split <;> rfl
theorem up1_self {α : Type} (f : Nat → α) (a : Nat) : up1 f a (f a) = f := by
  funext b
  unfold up1
  split
  · rename_i e; rw [e]
  · rfl
theorem up2_up2 {α : Type} (f : Nat → Nat → α) (k a : Nat) (v v' : α) : up2 (up2 f k a v) k a v' = up2 f k a v' := by
  funext g b
  unfold up2
  split <;> rfl
theorem up2_self {α : Type} (f : Nat → Nat → α) (k a : Nat) : up2 f k a (f k a) = f := by
  funext g b
  unfold up2
  split
  · rename_i e; rw [e.1, e.2]
  · rfl
theorem vw_vw (h : AH) (r r' : List Int32) (v v' : Int32) : vw (vw h r v) r' v' = vw h r' v' := by
  unfold vw
  simp only [hC, hI, hL, hR, aI, aL, aR, hZ]
  rw [up2_up2, up1_up1]
theorem vw_s (h : AH) (r : List Int32) (v v' : Int32) : sI (vw h r v) 656 62 v' = vw h r v' := by
  unfold sI vw
  simp only [hC, hI, hL, hR, aI, aL, aR, hZ]
  rw [up2_up2]
theorem vw_t (h : AH) (r r' : List Int32) (v : Int32) : tI (vw h r v) 72 r' = vw h r' v := by
  unfold tI vw
  simp only [hC, hI, hL, hR, aI, aL, aR, hZ]
  rw [up1_up1]
theorem vw_0 (h : AH) (v : Int32) : sI h 656 62 v = vw h (aI h 72) v := by
  unfold sI vw
  rw [up1_self]
theorem M3.vw {D : List LK} {h : AH} {r : List Int32} {v : Int32} (hM : M3 D h) : M3 D (vw h r v) := hM
theorem vw_n (h : AH) (r : List Int32) (v : Int32) : hI (vw h r v) 656 62 = v := rfl
theorem vw_r (h : AH) (r : List Int32) (v : Int32) : aI (vw h r v) 72 = r := rfl
section R2
variable {l : Launch} {w : WD} {d : Nat} {h : AH} {Q : Option AV → AH → Prop} {D : List LK}
theorem r_isView (hM : M3 D h) {x : Int32} (q : Q (some (vi (b2i (isX D x)))) h) : Con l w true (d + 2) HX9_isView [vr 62, vi x] h 0 0 Q := by
  refine Con.of ok_X9_isView (nones := []) rfl (by simp) ?_
  refine Ex.lay (fun hy => ?_)
  refine go ok_X9_isView ?_
  refine Cal.z (r_noLook hM ?_)
  refine go ok_X9_isView ?_
  refine And.intro (fun c => ?_) (fun c => ?_)
  · have c1 := b2i_ne.mp c
    simp only [Bool.not_eq_true', decide_eq_false_iff_not] at c1
    refine go ok_X9_isView ?_
    refine And.intro (Or.inl rfl) ?_
    rw [isX_out c1] at q
    exact q
  · have c1 := b2i_eq.mp c
    simp only [Bool.not_eq_false', decide_eq_true_eq] at c1
    obtain ⟨k, hk, rfl⟩ := c1
    have hk1 : k < 100 := Nat.lt_of_lt_of_le hk hM.2.1
    rw [isX_nI (by omega)] at q
    have hkd := (hM.2.2 k hk).2.2.1
    have ec : (nI k).toNatClampNeg = k := nI_clamp (by omega)
    refine go ok_X9_isView ?_
    refine And.intro (ix66 hy rfl hk1) ?_
    refine And.intro (fun c2 => ?_) (fun c2 => ?_)
    · rw [ec, hkd] at c2
      refine go ok_X9_isView ?_
      refine And.intro (Or.inr rfl) ?_
      have e : isV D k = true := by simp [isV, hk, c2]
      rw [e] at q
      exact q
    · rw [ec, hkd] at c2
      refine go ok_X9_isView ?_
      refine And.intro (ix66 hy rfl hk1) ?_
      refine And.intro (fun c3 => ?_) (fun c3 => ?_)
      · rw [ec, hkd] at c3
        refine go ok_X9_isView ?_
        refine And.intro (Or.inl rfl) ?_
        have e : isV D k = false := by simp [isV, c2, c3]
        rw [e] at q
        exact q
      · rw [ec, hkd] at c3
        refine go ok_X9_isView ?_
        refine And.intro (Or.inr rfl) ?_
        have e : isV D k = true := by simp [isV, hk, c3]
        rw [e] at q
        exact q
theorem r_isViewN (hM : M3 D h) {k : Nat} (hk : k < 2 ^ 31) (q : Q (some (vi (b2i (isV D k)))) h) : Con l w true (d + 2) HX9_isView [vr 62, vi (nI k)] h 0 0 Q := r_isView hM (by rw [isX_nI hk]; exact q)
theorem r_areAlike (hM : M3 D h) {cl : Int64} (hcl : hL h 654 62 = cl) {k j : Nat} (hk : k < D.length) (hj : j < D.length) (q : Q (some (vi (b2i (alk D cl k j)))) h) : Con l w true d HX9_areAlike [vr 62, vi (nI k), vi (nI j)] h 0 0 Q := by
  have hk1 : k < 100 := Nat.lt_of_lt_of_le hk hM.2.1
  have hj1 : j < 100 := Nat.lt_of_lt_of_le hj hM.2.1
  have ek : (nI k).toNatClampNeg = k := nI_clamp (by omega)
  have ej : (nI j).toNatClampNeg = j := nI_clamp (by omega)
  have dk := hM.2.2 k hk
  have dj := hM.2.2 j hj
  refine Con.of ok_X9_areAlike (nones := []) rfl (by simp) ?_
  refine Ex.lay (fun hy => ?_)
  refine go ok_X9_areAlike ?_
  refine And.intro (ix66 hy rfl hk1) (And.intro (ix66 hy rfl hj1) ?_)
  refine And.intro (fun c => ?_) (fun c => ?_)
  · rw [ek, ej, dk.2.2.1, dj.2.2.1] at c
    refine go ok_X9_areAlike ?_
    refine And.intro (Or.inl rfl) ?_
    have e : alk D cl k j = false := by simp [alk, c]
    rw [e] at q
    exact q
  · rw [ek, ej, dk.2.2.1, dj.2.2.1] at c
    refine go ok_X9_areAlike ?_
    refine And.intro (ix66 hy rfl hk1) ?_
    refine And.intro (fun c2 => ?_) (fun c2 => ?_)
    · rw [ek, dk.2.2.1] at c2
      refine go ok_X9_areAlike ?_
      refine And.intro (Or.inr rfl) ?_
      have e : alk D cl k j = true := by simp [alk, ← c, c2]
      rw [e] at q
      exact q
    · rw [ek, dk.2.2.1] at c2
      refine go ok_X9_areAlike ?_
      refine And.intro (ix67 hy rfl hk1) (And.intro (ix67 hy rfl hj1) ?_)
      refine And.intro (fun c3 => ?_) (fun c3 => ?_)
      · rw [ek, ej, dk.2.2.2.1, dj.2.2.2.1, hcl, lg_cmp_eq] at c3
        replace c3 : ¬ stD D k &&& ncl cl = stD D j &&& ncl cl := c3
        refine go ok_X9_areAlike ?_
        refine And.intro (Or.inl rfl) ?_
        have e : alk D cl k j = false := by simp [alk, c2, c3]
        rw [e] at q
        exact q
      · rw [ek, ej, dk.2.2.2.1, dj.2.2.2.1, hcl, lg_cmp_eq] at c3
        replace c3 : stD D k &&& ncl cl = stD D j &&& ncl cl := c3
        refine go ok_X9_areAlike ?_
        refine And.intro (Or.inr rfl) ?_
        have e : alk D cl k j = true := by simp [alk, c, c3]
        rw [e] at q
        exact q
/-- the list of views up to a look -/
def vwsUp (D : List LK) (p i : Nat) : List Nat := (List.range i).filter (fun l => decide (pgD D l = p) && isV D l)
theorem vwsUp_s (D : List LK) (p i : Nat) : vwsUp D p (i + 1) = if (decide (pgD D i = p) && isV D i) = true then vwsUp D p i ++ [i] else vwsUp D p i := by
  unfold vwsUp
  rw [List.range_succ, List.filter_append]
  by_cases c : (decide (pgD D i = p) && isV D i) = true
  · rw [if_pos c]; simp only [List.filter_cons, c, if_true, List.filter_nil]
  · rw [if_neg c]; simp only [List.filter_cons, c, List.filter_nil]; simp
theorem vwsUp_le (D : List LK) (p i : Nat) : (vwsUp D p i).length ≤ i := by
  have := List.length_filter_le (fun l => decide (pgD D l = p) && isV D l) (List.range i)
  rw [List.length_range] at this
  exact this
def gN (L : List Nat) (i : Nat) : Nat := L.getD i 0
/-- a row holds a list of numbers -/
def rowIs (r : List Int32) (L : List Nat) : Prop := ∀ i, i < L.length → r.getD i 0 = nI (gN L i)
theorem rowIs_nil (r : List Int32) : rowIs r [] := fun i h => absurd h (Nat.not_lt_zero _)
theorem getD_set {α : Type} (r : List α) (k i : Nat) (v d : α) : (r.set k v).getD i d = if i = k ∧ k < r.length then v else r.getD i d := by
  rw [List.getD_eq_getElem?_getD, List.getElem?_set, List.getD_eq_getElem?_getD]
  by_cases h1 : k = i
  · subst h1
    by_cases h2 : k < r.length
    · simp [h2]
    · simp [h2]
  · have : ¬ (i = k ∧ k < r.length) := fun z => h1 z.1.symm
    rw [if_neg h1, if_neg this]
theorem getD_snoc {α : Type} (L : List α) (v d : α) (i : Nat) : (L ++ [v]).getD i d = if i < L.length then L.getD i d else if i = L.length then v else d := by
  rw [List.getD_eq_getElem?_getD, List.getElem?_append]
  split
  · rw [List.getD_eq_getElem?_getD]
  · split
    · rename_i h; subst h; simp
    · rename_i h1 h2
      rw [List.getElem?_eq_none (by simp; omega)]
      rfl
theorem rowIs_snoc {r : List Int32} {L : List Nat} {k : Nat} (h : rowIs r L) (hr : L.length < r.length) : rowIs (r.set L.length (nI k)) (L ++ [k]) := by
  intro i hi
  rw [List.length_append, List.length_singleton] at hi
  rw [getD_set, gN, getD_snoc]
  by_cases c : i = L.length
  · subst c
    rw [if_pos ⟨rfl, hr⟩, if_neg (Nat.lt_irrefl _), if_pos rfl]
  · rw [if_neg (fun z => c z.1), if_pos (by omega)]
    exact h i (by omega)
theorem r_findViews_loop (hM : M3 D h) {p : Nat} (hp : p < 2 ^ 31) (q : ∀ r, r.length = 100 → rowIs r (vws D p) → Q none (vw h r (nI (vws D p).length))) : ∀ (n i : Nat) (r : List Int32), i + n = D.length → r.length = 100 → rowIs r (vwsUp D p i) →
    Ex l w true mX9_findViews (d + 3) Q 7 [some (vr 62), some (vi (nI p)), some (vi (nI i))] [] (vw h r (nI (vwsUp D p i).length)) 0 0 := by
  have hD := hM.2.1
  intro n
  induction n with
  | zero =>
    intro i r hi hr hrow
    have : i = D.length := by omega
    subst this
    refine go ok_X9_findViews ?_
    refine And.intro (fun c => ?_) (fun c => ?_)
    · refine go ok_X9_findViews ?_
      exact q r hr hrow
    · exact absurd (by show hI (vw h r _) 643 62 ≤ _; rw [show hI (vw h r (nI (vwsUp D p D.length).length)) 643 62 = nI D.length from hM.1]; exact nI_le (Nat.le_refl _) (by omega)) c
  | succ n ih =>
    intro i r hi hr hrow
    have hlt : i < D.length := by omega
    have di := hM.2.2 i hlt
    have ei : (nI i).toNatClampNeg = i := nI_clamp (by omega)
    have hle := vwsUp_le D p i
    refine Ex.lay (fun hy => ?_)
    refine go ok_X9_findViews ?_
    refine And.intro (fun c => ?_) (fun c => ?_)
    · exact absurd (show nI D.length ≤ nI i by rw [← hM.1]; exact c) (nI_ge hlt (by omega))
    · refine go ok_X9_findViews ?_
      refine And.intro (ix64 hy rfl (by omega)) ?_
      refine And.intro (fun c2 => ?_) (fun c2 => ?_)
      · replace c2 : ¬ (aI h 64).getD (nI i).toNatClampNeg 0 = nI p := c2
        rw [ei, di.1, nI_eq (by omega) hp] at c2
        refine go ok_X9_findViews ?_
        have e : vwsUp D p (i + 1) = vwsUp D p i := by rw [vwsUp_s, if_neg (by simp [c2])]
        have hh := ih (i + 1) r (by omega) hr (by rw [e]; exact hrow)
        rw [e, ← nI_1] at hh
        exact hh
      · replace c2 : (aI h 64).getD (nI i).toNatClampNeg 0 = nI p := c2
        rw [ei, di.1, nI_eq (by omega) hp] at c2
        refine go ok_X9_findViews ?_
        refine Cal.z (r_isViewN (D := D) (k := i) (M3.vw hM) (by omega) ?_)
        refine go ok_X9_findViews ?_
        refine And.intro (fun c3 => ?_) (fun c3 => ?_)
        · have c4 := b2i_eq.mp c3
          refine go ok_X9_findViews ?_
          have e : vwsUp D p (i + 1) = vwsUp D p i := by rw [vwsUp_s, if_neg (by simp [c4])]
          have hh := ih (i + 1) r (by omega) hr (by rw [e]; exact hrow)
          rw [e, ← nI_1] at hh
          exact hh
        · have c4 := b2i_ne.mp c3
          refine go ok_X9_findViews ?_
          refine And.intro (jx72 hy (k := (vwsUp D p i).length) rfl (by omega)) ?_
          have e : vwsUp D p (i + 1) = vwsUp D p i ++ [i] := by rw [vwsUp_s, if_pos (by simp [c4, c2])]
          have hh := ih (i + 1) (r.set (vwsUp D p i).length (nI i)) (by omega) (by rw [List.length_set]; exact hr) (by rw [e]; exact rowIs_snoc hrow (by omega))
          rw [e, List.length_append, List.length_singleton, ← nI_1, ← nI_1] at hh
          have e2 : (nI (vwsUp D p i).length).toNatClampNeg = (vwsUp D p i).length := nI_clamp (by omega)
          have e3 : sI (tI (vw h r (nI (vwsUp D p i).length)) 72 (r.set (nI (vwsUp D p i).length).toNatClampNeg (nI i))) 656 62 (nI (vwsUp D p i).length + 1) = vw h (r.set (vwsUp D p i).length (nI i)) (nI (vwsUp D p i).length + 1) := by rw [vw_t, vw_s, e2]
          rw [← e3] at hh
          refine go ok_X9_findViews ?_
          exact hh
theorem r_findViews (hM : M3 D h) {p : Nat} (hp : p < 2 ^ 31) (q : ∀ r, r.length = 100 → rowIs r (vws D p) → Q none (vw h r (nI (vws D p).length))) : Con l w true (d + 3) HX9_findViews [vr 62, vi (nI p)] h 0 0 Q := by
  refine Con.of ok_X9_findViews (nones := [none]) rfl (by simp) ?_
  refine Ex.lay (fun hy => ?_)
  refine go ok_X9_findViews ?_
  have hh := r_findViews_loop (l := l) (w := w) (d := d) (Q := Q) hM hp q D.length 0 (aI h 72) (by omega) (yn72 hy) (rowIs_nil _)
  rw [show vw h (aI h 72) (nI (vwsUp D p 0).length) = sI h 656 62 0 from (vw_0 h 0).symm] at hh
  exact hh
end R2

