/-! ===== rows by cases ===== -/
theorem Qv {Q : Option AV → AH → Prop} {a b : Int32} {h : AH} (q : Q (some (vi a)) h) (e : a = b) : Q (some (vi b)) h := e ▸ q
theorem Ql {Q : Option AV → AH → Prop} {a b : Int64} {h : AH} (q : Q (some (vl a)) h) (e : a = b) : Q (some (vl b)) h := e ▸ q
/-- a number below n -/
def ixO (n : Nat) (x : Int32) : Option Nat := if x < 0 then none else if x.toNatClampNeg < n then some x.toNatClampNeg else none
theorem ixO_nI {n k : Nat} (hk : k < n) (hn : n < 2 ^ 31) : ixO n (nI k) = some k := by
  unfold ixO
  rw [if_neg (nI_pos (by omega)), nI_clamp (by omega), if_pos hk]
theorem ixO_out {n : Nat} {x : Int32} (hx : ¬ ∃ k, k < n ∧ x = nI k) : ixO n x = none := by
  unfold ixO
  split
  · rfl
  · rename_i h0
    obtain ⟨k, hk, rfl⟩ := nI_of h0
    rw [nI_clamp hk, if_neg (fun z => hx ⟨k, z, rfl⟩)]
theorem ixO_none {n : Nat} {x : Int32} (hn : n < 2 ^ 31) (e : ixO n x = none) : ¬ ∃ k, k < n ∧ x = nI k := by
  rintro ⟨k, hk, rfl⟩
  rw [ixO_nI hk hn] at e
  cases e
theorem ixO_some {n k : Nat} {x : Int32} (e : ixO n x = some k) : k < n ∧ x = nI k ∧ k < 2 ^ 31 := by
  unfold ixO at e
  split at e
  · cases e
  · rename_i h0
    obtain ⟨j, hj, rfl⟩ := nI_of h0
    rw [nI_clamp hj] at e
    split at e
    · injection e with e; subst e; exact ⟨by assumption, rfl, hj⟩
    · cases e
theorem ix_dec2 {x : Int32} {n : Nat} (hn : n < 2 ^ 31) : ((0 : Int32) ≤ x ∧ x ≤ nI n - 1) ↔ ∃ k, k < n ∧ x = nI k := by
  have := ix_dec (x := x) hn
  rw [Bool.eq_iff_iff] at this
  simpa only [Bool.and_eq_true, decide_eq_true_eq] using this
/-- a view by its number -/
def vwO (D : List LK) (x : Int32) : Option Nat := match ixO D.length x with
  | some k => if isV D k then some k else none
  | none => none
def onesR (s : Int64) : Nat → Int32
  | 0 => 0
  | k + 1 => onesR s k + ((s >>> ((nI k).toInt64 &&& 63)) &&& 1).toInt32
def ons (s : Int64) : Int32 := onesR s 64
section R6
variable {l : Launch} {w : WD} {d : Nat} {h : AH} {Q : Option AV → AH → Prop}
theorem k_in {a1 a2 a3 : Int64} {x lo hi : Int32} (e1 : a1 = x.toInt64) (e2 : a2 = lo.toInt64) (e3 : a3 = hi.toInt64) (q1 : lo ≤ x ∧ x ≤ hi → Q (some (vi 1)) h) (q2 : ¬ (lo ≤ x ∧ x ≤ hi) → Q (some (vi 0)) h) : Con l w true d HX9_in [vl a1, vl a2, vl a3] h 0 0 Q := by
  subst e1 e2 e3
  refine r_inI ?_
  by_cases c : lo ≤ x ∧ x ≤ hi
  · rw [decide_eq_true c.1, decide_eq_true c.2]; exact q1 c
  · have e : (decide (lo ≤ x) && decide (x ≤ hi)) = false := by
      rw [Bool.eq_false_iff]; intro z; simp only [Bool.and_eq_true, decide_eq_true_eq] at z; exact c z
    rw [e]; exact q2 c
theorem r_ones_loop {s : Int64} (q : Q (some (vi (ons s))) h) : ∀ (n i : Nat), i + n = 64 → Ex l w true mX9_ones d Q 4 [some (vl s), none, some (vi (onesR s i)), some (vi (nI i))] [] h 0 0 := by
  intro n
  induction n with
  | zero =>
    intro i hi
    have : i = 64 := by omega
    subst this
    refine go ok_X9_ones ?_
    refine And.intro (fun c => ?_) (fun c => absurd c (by decide))
    refine go ok_X9_ones ?_
    exact q
  | succ n ih =>
    intro i hi
    refine go ok_X9_ones ?_
    refine And.intro (fun c => ?_) (fun c => ?_)
    · replace c : nI 64 ≤ nI i := c; rw [nI_leI (by omega) (by omega)] at c
      omega
    · refine go ok_X9_ones ?_
      have hh := ih (i + 1) (by omega)
      rw [← nI_1] at hh
      exact hh
theorem r_ones {s : Int64} (q : Q (some (vi (ons s))) h) : Con l w true d HX9_ones [vl s] h 0 0 Q := by
  refine Con.of ok_X9_ones (nones := [none, none]) rfl (by simp) ?_
  refine go ok_X9_ones ?_
  exact r_ones_loop q 64 0 (by omega)
theorem k_noLook {D : List LK} (hM : M3 D h) {x : Int32} (q1 : ixO D.length x = none → Q (some (vi 1)) h) (q2 : ∀ k, k < D.length → x = nI k → ixO D.length x = some k → Q (some (vi 0)) h) : Con l w true (d + 1) HX9_noLook [vr 62, vi x] h 0 0 Q := by
  have hD := hM.2.1
  refine r_noLook hM ?_
  by_cases c : ∃ k, k < D.length ∧ x = nI k
  · obtain ⟨k, hk, rfl⟩ := c
    rw [decide_eq_true ⟨k, hk, rfl⟩]
    exact q2 k hk rfl (ixO_nI hk (by omega))
  · rw [decide_eq_false c]
    exact q1 (ixO_out c)
theorem k_isView {D : List LK} (hM : M3 D h) {x : Int32} (q1 : vwO D x = none → Q (some (vi 0)) h) (q2 : ∀ k, k < D.length → x = nI k → isV D k = true → vwO D x = some k → Q (some (vi 1)) h) : Con l w true (d + 2) HX9_isView [vr 62, vi x] h 0 0 Q := by
  have hD := hM.2.1
  refine r_isView hM ?_
  by_cases c : ∃ k, k < D.length ∧ x = nI k
  · obtain ⟨k, hk, rfl⟩ := c
    have e := ixO_nI hk (by omega)
    rw [isX_nI (by omega)]
    cases hv : isV D k with
    | true => exact q2 k hk rfl hv (by rw [vwO, e]; simp only [hv, if_true])
    | false => exact q1 (by rw [vwO, e]; simp only [hv]; rfl)
  · rw [isX_out c]
    exact q1 (by rw [vwO, ixO_out c])
theorem k_noPage {ds : List Int32} (hM : M2 ds h) {x : Int32} (q1 : ixO ds.length x = none → Q (some (vi 1)) h) (q2 : ∀ k, k < ds.length → x = nI k → ixO ds.length x = some k → Q (some (vi 0)) h) : Con l w true (d + 1) HX9_noPage [vr 62, vi x] h 0 0 Q := by
  have hD := hM.2.1
  refine Con.of ok_X9_noPage (nones := []) rfl (by simp) ?_
  refine go ok_X9_noPage ?_
  refine Cal.z (k_in (lo := 0) (hi := (nI ds.length - 1)) rfl rfl (by rw [hM.1]) (fun c => ?_) (fun c => ?_))
  · refine go ok_X9_noPage ?_
    refine And.intro (fun c2 => ?_) (fun c2 => absurd c2 (by decide))
    refine go ok_X9_noPage ?_
    refine And.intro (Or.inl rfl) ?_
    rw [ix_dec2 (by omega)] at c
    obtain ⟨k, hk, rfl⟩ := c
    exact q2 k hk rfl (ixO_nI hk (by omega))
  · refine go ok_X9_noPage ?_
    refine And.intro (fun c2 => absurd c2 (by decide)) (fun c2 => ?_)
    refine go ok_X9_noPage ?_
    refine And.intro (Or.inr rfl) ?_
    rw [ix_dec2 (by omega)] at c
    exact q1 (ixO_out c)
theorem k_isSeen {D : List LK} (hM : M3 D h) {x : Int32} {k : Nat} (hk : k < D.length) (hv : isV D k = true) (q1 : kdD D k = 0 → Q (some (vi 1)) h) (q2 : kdD D k = 1 → Q (some (vi 0)) h) : Con l w true (d + 3) HX9_isSeen [vr 62, vi (nI k)] h 0 0 Q := by
  have hD := hM.2.1
  refine Con.of ok_X9_isSeen (nones := []) rfl (by simp) ?_
  refine Ex.lay (fun hy => ?_)
  refine go ok_X9_isSeen ?_
  refine Cal.z (r_isViewN hM (by omega) ?_)
  rw [hv]
  refine go ok_X9_isSeen ?_
  refine And.intro (fun c => absurd c (by decide)) (fun c => ?_)
  refine go ok_X9_isSeen ?_
  refine And.intro (ix66 hy rfl (by omega)) ?_
  rw [nI_clamp (by omega), (hM.2.2 k hk).2.2.1]
  refine And.intro (fun c2 => ?_) (fun c2 => ?_)
  · refine go ok_X9_isSeen ?_
    refine And.intro (Or.inl rfl) ?_
    refine q2 ?_
    unfold isV at hv
    simp [c2] at hv
    exact hv.2
  · refine go ok_X9_isSeen ?_
    refine And.intro (Or.inr rfl) ?_
    exact q1 (by simpa using c2)
theorem k_isTime {now : Int32} (hn : hI h 640 62 = now) {x : Int32} (q1 : 0 ≤ x ∧ x ≤ now → Q (some (vi 1)) h) (q2 : ¬ (0 ≤ x ∧ x ≤ now) → Q (some (vi 0)) h) : Con l w true (d + 1) HX9_isTime [vr 62, vi x] h 0 0 Q := by
  refine Con.of ok_X9_isTime (nones := []) rfl (by simp) ?_
  refine go ok_X9_isTime ?_
  refine Cal.z (k_in (lo := 0) (hi := now) rfl rfl (by rw [hn]) (fun c => ?_) (fun c => ?_))
  · refine go ok_X9_isTime ?_
    refine And.intro (Or.inr rfl) ?_
    exact q1 c
  · refine go ok_X9_isTime ?_
    refine And.intro (Or.inl rfl) ?_
    exact q2 c
end R6

