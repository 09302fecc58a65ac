/-! ===== the state that both sides have: looks as a list of (page, hour, kind, set, date) ===== -/
abbrev LK : Type := Nat × Int32 × Int32 × Int64 × Int32
def lkD (D : List LK) (l : Nat) : LK := D.getD l (0, 0, 0, 0, 0)
def pgD (D : List LK) (l : Nat) : Nat := (lkD D l).1
def hrD (D : List LK) (l : Nat) : Int32 := (lkD D l).2.1
def kdD (D : List LK) (l : Nat) : Int32 := (lkD D l).2.2.1
def stD (D : List LK) (l : Nat) : Int64 := (lkD D l).2.2.2.1
def dtD (D : List LK) (l : Nat) : Int32 := (lkD D l).2.2.2.2
def isV (D : List LK) (l : Nat) : Bool := decide (l < D.length) && (decide (kdD D l = 0) || decide (kdD D l = 1))
def vws (D : List LK) (p : Nat) : List Nat := (List.range D.length).filter (fun l => decide (pgD D l = p) && isV D l)
def ncl (cl : Int64) : Int64 := cl ^^^ (-1)
def alk (D : List LK) (cl : Int64) (l k : Nat) : Bool := decide (kdD D l = kdD D k) && (decide (kdD D l = 1) || decide (stD D l &&& ncl cl = stD D k &&& ncl cl))
/-! ===== the reference's cells tell that state ===== -/
def M3 (D : List LK) (h : AH) : Prop := hI h 643 62 = nI D.length ∧ D.length ≤ 100 ∧ ∀ i, i < D.length → (aI h 64).getD i 0 = nI (pgD D i) ∧ (aI h 65).getD i 0 = hrD D i ∧ (aI h 66).getD i 0 = kdD D i ∧ (aL h 67).getD i 0 = stD D i ∧ (aI h 68).getD i 0 = dtD D i ∧ pgD D i < 12
section R1
variable {l : Launch} {w : WD} {d : Nat} {h : AH} {Q : Option AV → AH → Prop}
theorem r_in {lm : Bool} {v lo hi : Int64} (q : Q (some (vi (b2i (decide (lo ≤ v) && decide (v ≤ hi))))) h) : Con l w lm d HX9_in [vl v, vl lo, vl hi] h 0 0 Q := by
  refine Con.of ok_X9_in (nones := []) rfl (by simp) ?_
  refine go ok_X9_in ?_
  refine And.intro (fun c => ?_) (fun c => ?_)
  · refine go ok_X9_in ?_
    refine And.intro (Or.inl rfl) ?_
    have e : decide (lo ≤ v) = false := by
      have := (lg_cmp_lt _ _).mp c
      simpa using this
    rw [e] at q
    exact q
  · refine go ok_X9_in ?_
    have c1 : lo ≤ v := by
      have : ¬ v < lo := fun z => c ((lg_cmp_lt _ _).mpr z)
      simpa using this
    refine And.intro (fun c2 => ?_) (fun c2 => ?_)
    · refine go ok_X9_in ?_
      refine And.intro (Or.inl rfl) ?_
      have : hi < v := (lg_cmp_gt _ _).mp c2
      have e : decide (v ≤ hi) = false := by simpa using this
      rw [e, Bool.and_false] at q
      exact q
    · refine go ok_X9_in ?_
      refine And.intro (Or.inr rfl) ?_
      have : ¬ hi < v := fun z => c2 ((lg_cmp_gt _ _).mpr z)
      have e : decide (v ≤ hi) = true := by simpa using this
      rw [e, decide_eq_true c1] at q
      exact q
/-- of ints: within bounds -/
theorem in_ints {x lo hi : Int32} : (decide (lo.toInt64 ≤ x.toInt64) && decide (x.toInt64 ≤ hi.toInt64)) = (decide (lo ≤ x) && decide (x ≤ hi)) := by
  have e : ∀ a b : Int32, (a.toInt64 ≤ b.toInt64) = (a ≤ b) := by
    intro a b
    rw [Int64.le_iff_toInt_le, Int32.le_iff_toInt_le, Int32.toInt_toInt64, Int32.toInt_toInt64]
  simp only [e]
theorem r_inI {x lo hi : Int32} (q : Q (some (vi (b2i (decide (lo ≤ x) && decide (x ≤ hi))))) h) : Con l w true d HX9_in [vl x.toInt64, vl lo.toInt64, vl hi.toInt64] h 0 0 Q := by
  refine r_in ?_
  rw [in_ints]
  exact q
/-- a number of a list of n -/
theorem ix_dec {x : Int32} {n : Nat} (hn : n < 2 ^ 31) : (decide ((0 : Int32) ≤ x) && decide (x ≤ nI n - 1)) = decide (∃ k, k < n ∧ x = nI k) := by
  have h1 : (nI n - 1).toInt = (n : Int) - 1 := by
    have := pk_sub_toInt (a := n) (b := 1)
    rw [Int32.toInt_sub, nI_toInt hn]
    show ((n : Int) - 1).bmod _ = _
    rw [Int.bmod_eq_of_le] <;> omega
  rw [Bool.eq_iff_iff]
  simp only [Bool.and_eq_true, decide_eq_true_eq]
  constructor
  · rintro ⟨a, b⟩
    rw [Int32.le_iff_toInt_le] at a b
    rw [h1] at b
    obtain ⟨k, hk, rfl⟩ := nI_of (x := x) (by rw [Int32.lt_iff_toInt_lt]; simp at a ⊢; omega)
    rw [nI_toInt hk] at b
    exact ⟨k, by omega, rfl⟩
  · rintro ⟨k, hk, rfl⟩
    refine ⟨nI_pos' (by omega), ?_⟩
    rw [Int32.le_iff_toInt_le, h1, nI_toInt (by omega)]
    omega
theorem r_noLook {D : List LK} (hM : M3 D h) {x : Int32} (q : Q (some (vi (b2i (!decide (∃ k, k < D.length ∧ x = nI k))))) h) : Con l w true (d + 1) HX9_noLook [vr 62, vi x] h 0 0 Q := by
  refine Con.of ok_X9_noLook (nones := []) rfl (by simp) ?_
  refine go ok_X9_noLook ?_
  refine Cal.z (r_inI (lo := 0) (hi := hI h 643 62 - 1) ?_)
  rw [hM.1, ix_dec (by have := hM.2.1; omega)]
  refine go ok_X9_noLook ?_
  refine And.intro (fun c => ?_) (fun c => ?_)
  · refine go ok_X9_noLook ?_
    refine And.intro (Or.inl rfl) ?_
    rw [b2i_ne.mp c] at q
    exact q
  · refine go ok_X9_noLook ?_
    refine And.intro (Or.inr rfl) ?_
    rw [b2i_eq.mp c] at q
    exact q
end R1

