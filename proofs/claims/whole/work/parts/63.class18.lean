/-! ===== the class: the planner's search ===== -/
section Pm
variable (N : Nat) (nm dr wt lt : Nat → Nat) (nt : Nat)
def ffP (P : Nat → Nat) : Nat → Nat → Nat
  | 0, _ => 0
  | a + 1, k => if P a < N ∧ dr (P a) = k then a + lt k else ffP P a k
def gnP (P : Nat → Nat) : Nat → Nat → Bool
  | 0, _ => false
  | a + 1, i => gnP P a i || (decide (P a < N) && (decide (i ≤ P a) && decide (dr i = dr (P a))))
def tvP (x : Nat) : Int32 := if x < N then nI (nm x) else -1
def bsI (o : Option (Nat → Nat)) : Int32 := match o with
  | none => -1
  | some B => nI (wsm N wt B nt)
def PST (P : Nat → Nat) (a : Nat) (o : Option (Nat → Nat)) (h : AH) : Prop := (∀ k, k < 6 → (aI h 48).getD k 0 = nI (ffP N dr lt P a k)) ∧ (∀ k, k < 12 → (k < a → (aI h 50).getD k 0 = tvP N nm (P k)) ∧ (nt ≤ k → (aI h 50).getD k 0 = -1)) ∧ hI h 265 42 = bsI N wt nt o ∧ ∀ B, o = some B → ∀ k, k < 12 → (aI h 51).getD k 0 = if k < nt then tvP N nm (B k) else -1
variable {N nm dr wt lt nt}
theorem ffP_cong {P Q : Nat → Nat} {k : Nat} : ∀ a, (∀ j, j < a → P j = Q j) → ffP N dr lt P a k = ffP N dr lt Q a k
  | 0, _ => rfl
  | a + 1, h => by rw [ffP, ffP, ffP_cong a (fun j hj => h j (by omega)), h a (by omega)]
theorem gnP_cong {P Q : Nat → Nat} {i : Nat} : ∀ a, (∀ j, j < a → P j = Q j) → gnP N dr P a i = gnP N dr Q a i
  | 0, _ => rfl
  | a + 1, h => by rw [gnP, gnP, gnP_cong a (fun j hj => h j (by omega)), h a (by omega)]
theorem ffP_le {P : Nat → Nat} {k b : Nat} : ∀ a, (∀ j, j < a → P j < N → dr (P j) = k → j + lt k ≤ b) → ffP N dr lt P a k ≤ b
  | 0, _ => Nat.zero_le _
  | a + 1, h => by
    rw [ffP]
    split
    · rename_i c; exact h a (by omega) c.1 c.2
    · exact ffP_le a (fun j hj => h j (by omega))
theorem ffP_ge {P : Nat → Nat} {k : Nat} : ∀ a j, j < a → P j < N → dr (P j) = k → j + lt k ≤ ffP N dr lt P a k
  | 0, _, hj, _, _ => by omega
  | a + 1, j, hj, h1, h2 => by
    rw [ffP]
    by_cases c : j = a
    · subst c; rw [if_pos ⟨h1, h2⟩]; exact Nat.le_refl _
    · have := ffP_ge a j (by omega) h1 h2
      split <;> omega
theorem gnP_false {P : Nat → Nat} {i : Nat} : ∀ a, gnP N dr P a i = false ↔ ∀ j, j < a → P j < N → dr (P j) = dr i → P j < i
  | 0 => ⟨fun _ j hj => by omega, fun _ => rfl⟩
  | a + 1 => by
    rw [gnP, Bool.or_eq_false_iff, gnP_false a]
    constructor
    · rintro ⟨h1, h2⟩ j hj c1 c2
      by_cases c : j = a
      · subst c
        rw [decide_eq_true c1, decide_eq_true c2.symm, Bool.and_true, Bool.true_and, decide_eq_false_iff_not] at h2
        omega
      · exact h1 j (by omega) c1 c2
    · intro h
      refine ⟨fun j hj => h j (by omega), ?_⟩
      by_cases c1 : P a < N
      · by_cases c2 : dr (P a) = dr i
        · have := h a (by omega) c1 c2
          rw [decide_eq_false (by omega : ¬ i ≤ P a), Bool.false_and, Bool.and_false]
        · rw [decide_eq_false (fun z : dr i = dr (P a) => c2 z.symm), Bool.and_false, Bool.and_false]
      · rw [decide_eq_false c1, Bool.false_and]
theorem okR_iff {P : Nat → Nat} {a i : Nat} (hi : i < N) : okR N dr wt lt (upF P a i) a ↔ (gnP N dr P a i = false ∧ ffP N dr lt P a (dr i) ≤ a ∧ ∀ x, x < i → gnP N dr P a x = false → dr x = dr i → wt x < wt i) := by
  have up : ∀ j, j < a → upF P a i j = P j := fun j hj => upF_n (by omega)
  unfold okR
  rw [upF_e]
  constructor
  · rintro ⟨h1, h2⟩
    refine ⟨(gnP_false a).mpr (fun j hj c1 c2 => ?_), ffP_le a (fun j hj c1 c2 => ?_), fun x hx c1 c2 => ?_⟩
    · have := h1 j hj (by rw [up j hj]; exact c1) (by rw [up j hj]; exact c2)
      rw [up j hj] at this
      exact this.1
    · have := h1 j hj (by rw [up j hj]; exact c1) (by rw [up j hj]; exact c2)
      omega
    · refine h2 x hx c2 (fun j hj d1 d2 => ?_)
      rw [up j hj] at d1 d2 ⊢
      exact (gnP_false a).mp c1 j hj d1 d2
  · rintro ⟨h1, h2, h3⟩
    refine ⟨fun j hj c1 c2 => ?_, fun x hx c1 c2 => ?_⟩
    · rw [up j hj] at c1 c2 ⊢
      have := ffP_ge (lt := lt) a j hj c1 c2
      exact ⟨(gnP_false a).mp h1 j hj c1 c2, by omega⟩
    · refine h3 x hx ((gnP_false a).mpr (fun j hj d1 d2 => ?_)) c1
      have := c2 j hj (by rw [up j hj]; exact d1) (by rw [up j hj]; exact d2)
      rw [up j hj] at this
      exact this
theorem vldR_up {P : Nat → Nat} {a i : Nat} (hv : vldR N dr wt lt P a) (hi : i = N ∨ (i < N ∧ okR N dr wt lt (upF P a i) a)) : vldR N dr wt lt (upF P a i) (a + 1) := by
  intro k hk
  by_cases c : k = a
  · subst c
    rw [upF_e]
    exact hi
  · have h0 : vldR N dr wt lt (upF P a i) a := vldR_cong N dr wt lt (fun j hj => (upF_n (by omega)).symm) hv
    exact h0 k (by omega)
/-- one that goes on with i may -/
theorem vldR_ok {P P' : Nat → Nat} {a i : Nat} (ha : a < nt) (hv : vldR N dr wt lt P' nt) (hg : AgP a P P') (e : P' a = i) (hi : i < N) : okR N dr wt lt (upF P a i) a := by
  rcases hv a ha with z | ⟨-, z⟩
  · omega
  · exact okR_cong N dr wt lt (fun j hj => by
      by_cases c : j = a
      · subst c; rw [upF_e]; exact e
      · rw [upF_n c]; exact hg j (by omega)) z
/-- the bound holds -/
theorem most_ub {P P' : Nat → Nat} {a : Nat} (ha : a ≤ nt) (hv : vldR N dr wt lt P' nt) (hg : AgP a P P') {bw : List Nat} (hb : ∀ x, x ∈ bw ↔ x < N) (hs : bw.Pairwise (fun x y => wt y ≤ wt x)) (hl : ∀ i, i < N → 1 ≤ lt (dr i)) : wsm N wt P' nt ≤ wsm N wt P a + grB dr wt (fun j => gnP N dr P a j) bw (rmP lt (fun k => ffP N dr lt P a k) nt a) (nt - a) := by
  have e := itm_sum N wt (P := P') (a := a) (nt - a)
  rw [show a + (nt - a) = nt by omega, wsm_cong N wt a (fun k hk => hg k hk)] at e
  have ok : ∀ k, k < nt → P' k < N → okR N dr wt lt P' k := fun k hk hN => by rcases hv k hk with z | ⟨-, z⟩; omega; exact z
  have := grB_ub dr wt (gn := fun j => gnP N dr P a j) bw (rmP lt (fun k => ffP N dr lt P a k) nt a) (nt - a) (itm N P' a (nt - a)) hs (itm_nodup N dr (fun _ => true) lt (vldR_vld N dr wt lt hv) (nt - a) (by omega)) (itm_len N (nt - a)) (fun x hx => by
    obtain ⟨k, h1, h2, h3, h4⟩ := itm_mem N (nt - a) hx
    subst h3
    refine ⟨(hb _).mpr h4, (gnP_false a).mpr (fun j hj c1 c2 => ?_)⟩
    have := (ok k (by omega) h4).1 j (by omega) (by rw [hg j hj]; exact c1) (by rw [hg j hj]; exact c2)
    rw [hg j hj] at this
    exact this.1) (fun k => by
    by_cases ex : ∃ i, a ≤ i ∧ i < nt ∧ P' i < N ∧ dr (P' i) = k
    · obtain ⟨i0, x1, x2, x3, x4⟩ := ex
      have hL : 1 ≤ lt k := by rw [← x4]; exact hl _ x3
      have cr := ct_room N dr (Q := P') (a := a) (m := nt) (k := k) (L := lt k) (c := if a < ffP N dr lt P a k then ffP N dr lt P a k else a) hL (fun i j h1 h2 h3 h4 h5 h6 h7 => by
        have := ((ok j h3 h5).1 i h2 h4 (h6.trans h7.symm)).2
        rw [h7] at this
        exact this) (fun j h1 h2 h3 h4 => by
        have : ffP N dr lt P a k ≤ j := ffP_le a (fun i hi c1 c2 => by
          have := ((ok j h2 h3).1 i (by omega) (by rw [hg i hi]; exact c1) (by rw [hg i hi, c2, h4])).2
          rw [h4] at this
          omega)
        split <;> omega) (nt - a) (by omega)
      rw [show a + (nt - a) = nt by omega] at cr
      unfold rmP
      by_cases c : nt ≤ (if a < ffP N dr lt P a k then ffP N dr lt P a k else a)
      · rw [if_pos c] at cr
        rw [if_pos (Or.inl c)]
        exact cr
      · rw [if_neg c] at cr
        rw [if_neg (fun z => z.elim c (by omega))]
        exact cr
    · have : lsm (cwD dr k) (itm N P' a (nt - a)) = 0 := by
        rcases Nat.eq_zero_or_pos (lsm (cwD dr k) (itm N P' a (nt - a))) with z | z
        · exact z
        · obtain ⟨x, hx, e⟩ := lsm_pos (by omega : lsm (cwD dr k) (itm N P' a (nt - a)) ≠ 0)
          obtain ⟨i, h1, h2, h3, h4⟩ := itm_mem N (nt - a) hx
          exfalso
          by_cases c : dr x = k
          · exact ex ⟨i, h1, by omega, h4, by rw [← h3]; exact c⟩
          · exact e (if_neg c)
      omega)
  omega
theorem cpy_all {α : Type} {s r : List α} (h1 : s.length = 12) (h2 : r.length = 12) : cpy s r 0 0 12 = s := by
  unfold cpy
  rw [List.take_zero, List.drop_zero, List.nil_append, List.take_of_length_le (by omega), List.drop_of_length_le (by omega), List.append_nil]
end Pm

