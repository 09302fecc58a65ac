/-! ===== the class: words, signs, numbers ===== -/
theorem wEq_iff {tx : List Int32} {b : Nat} {ws : List Int32} : ∀ n, wEq tx b ws n = true ↔ ∀ k, k < n → tAt tx (b + k) = ws.getD k 0
  | 0 => ⟨fun _ k hk => by omega, fun _ => rfl⟩
  | n + 1 => by
    rw [wEq, Bool.and_eq_true, wEq_iff n, decide_eq_true_eq]
    constructor
    · rintro ⟨h1, h2⟩ k hk
      by_cases c : k = n
      · subst c; exact h2
      · exact h1 k (by omega)
    · intro h1
      exact ⟨fun k hk => h1 k (by omega), h1 n (by omega)⟩
theorem run_steps {P : Int32 → Bool} {tx : List Int32} {b : Nat} (hP : P (-1) = false) : ∀ n, (∀ k, k < n → P (tAt tx (b + k)) = true) → run P tx b = run P tx (b + n)
  | 0, _ => rfl
  | n + 1, h1 => by rw [run_steps hP n (fun k hk => h1 k (by omega)), run_step hP (h1 n (by omega)), Nat.add_assoc]
theorem wAt_iff {tx : List Int32} {b : Nat} {ws : List Int32} (hw : ∀ k, k < ws.length → 97 ≤ ws.getD k 0 ∧ ws.getD k 0 ≤ 122) : wAt tx b ws = true ↔ ((∀ k, k < ws.length → tAt tx (b + k) = ws.getD k 0) ∧ isLt (tAt tx (b + ws.length)) = false) := by
  unfold wAt
  rw [Bool.and_eq_true, decide_eq_true_eq, wEq_iff]
  constructor
  · rintro ⟨h1, h2⟩
    have h3 := run_ge (P := isLt) (tx := tx) rfl b
    refine ⟨h2, ?_⟩
    rw [show b + ws.length = run isLt tx b by omega]
    exact run_end rfl b
  · rintro ⟨h1, h2⟩
    have : run isLt tx b = b + ws.length := by
      rw [run_steps rfl ws.length (fun k hk => by rw [h1 k hk]; unfold isLt; exact decide_eq_true (hw k hk))]
      exact run_stop h2
    exact ⟨by omega, h1⟩
theorem wAt_run {tx : List Int32} {b : Nat} {ws : List Int32} (h : wAt tx b ws = true) : run isLt tx b = b + ws.length := by
  unfold wAt at h
  rw [Bool.and_eq_true, decide_eq_true_eq] at h
  have h3 := run_ge (P := isLt) (tx := tx) rfl b
  omega
/-- a number's value, as the class reckons it -/
def cvN (tx : List Int32) (i : Nat) : Nat → Int32
  | 0 => 0
  | n + 1 => if cvN tx i n * 10 + tAt tx (i + n) - 48 < 1000 then cvN tx i n * 10 + tAt tx (i + n) - 48 else 1000
theorem dg_nat {c : Int32} (h : isDg c = true) : ∃ m, m ≤ 9 ∧ c = nI (48 + m) := by
  unfold isDg at h
  rw [decide_eq_true_eq] at h
  obtain ⟨n, hn, e⟩ := natOf (n := 57) (by decide) (Int32.le_trans (by decide) h.1) h.2
  have h1 := h.1
  rw [e] at h1
  replace h1 : nI 48 ≤ nI n := h1
  rw [nI_leI (by omega) (by omega)] at h1
  exact ⟨n - 48, by omega, by rw [show 48 + (n - 48) = n by omega]; exact e⟩
theorem cv_rv {tx : List Int32} {i : Nat} : ∀ n, n ≤ 3 → (∀ k, k < n → isDg (tAt tx (i + k)) = true) → ∃ m, m < 10 ^ n ∧ cvN tx i n = nI m ∧ rvN tx i n = nI m
  | 0, _, _ => ⟨0, by decide, rfl, rfl⟩
  | n + 1, hn, h => by
    obtain ⟨m, hm, e1, e2⟩ := cv_rv n (by omega) (fun k hk => h k (by omega))
    obtain ⟨g, hg, eg⟩ := dg_nat (h n (by omega))
    have hp : 10 ^ n ≤ 100 := by
      have : n = 0 ∨ n = 1 ∨ n = 2 := by omega
      rcases this with z | z | z <;> subst z <;> decide
    have hp2 : 10 ^ (n + 1) = 10 * 10 ^ n := by rw [Nat.pow_succ, Nat.mul_comm]
    have x1 : nI m * 10 + nI (48 + g) - 48 = nI (10 * m + g) := by
      rw [show (10 : Int32) = nI 10 from rfl, nI_mul, nI_add, show (48 : Int32) = nI 48 from rfl, i32_sub_nI (by omega)]
      congr 1
      omega
    have x2 : 10 * nI m + nI (48 + g) - 48 = nI (10 * m + g) := by
      rw [show (10 : Int32) = nI 10 from rfl, nI_mul, nI_add, show (48 : Int32) = nI 48 from rfl, i32_sub_nI (by omega)]
      congr 1
      omega
    refine ⟨10 * m + g, by omega, ?_, ?_⟩
    · rw [cvN, e1, eg, x1, if_pos]
      rw [show (1000 : Int32) = nI 1000 from rfl, nI_ltI (by omega) (by omega)]
      omega
    · rw [rvN, e2, eg, x2, if_pos]
      rw [show (999 : Int32) = nI 999 from rfl, nI_leI (by omega) (by omega)]
      omega
section C25
variable {l : Launch} {w : WD} {d : Nat} {h : AH} {Q : Option AV → AH → Prop} {tx : List Int32} {i j : Nat} {k p : Int32}
theorem c_fail {k2 p2 : Int32} (q1 : k = 0 → Q none (tH h i k2 p2)) (q2 : ¬ k = 0 → Q none (tH h i k p)) : Con l w true d HX6_fail [vr 36, vi k2, vi p2] (tH h i k p) 0 0 Q := by
  refine Con.of ok_X6_fail (nones := []) rfl (by simp) ?_
  refine go ok_X6_fail ?_
  refine asAnd ?_
  rw [show hI (tH h i k p) 451 36 = k from rfl]
  refine And.intro (fun c => ?_) (fun c => ?_)
  · refine go ok_X6_fail ?_
    exact q2 c
  · have q := q1 c
    rw [← tH_k h i k p] at q
    refine go ok_X6_fail ?_
    exact q
theorem c_goesOn (hT : TXc tx h) (hi : i ≤ tx.length) (q1 : k = 0 → skp tx i < tx.length → Q (some (vi 1)) (tH h (skp tx i) k p)) (q2 : k = 0 → ¬ skp tx i < tx.length → Q (some (vi 0)) (tH h (skp tx i) k p)) (q3 : ¬ k = 0 → Q (some (vi 0)) (tH h i k p)) : Con l w true (d + 2) HX6_goesOn [vr 36] (tH h i k p) 0 0 Q := by
  have h200 := hT.2.1
  have hle := skp_le hi
  refine Con.of ok_X6_goesOn (nones := []) rfl (by simp) ?_
  refine go ok_X6_goesOn ?_
  refine asAnd ?_
  rw [show hI (tH h i k p) 451 36 = k from rfl]
  refine And.intro (fun c => ?_) (fun c => ?_)
  · refine go ok_X6_goesOn ?_
    refine And.intro (Or.inl rfl) ?_
    exact q3 c
  · refine go ok_X6_goesOn ?_
    refine Cal.z (c_nextPlace hT hi ?_)
    refine go ok_X6_goesOn ?_
    refine asAnd ?_
    rw [show hI (tH h (skp tx i) k p) 449 36 = nI tx.length from hT.1, nI_leI (by omega) (by omega)]
    refine And.intro (fun c2 => ?_) (fun c2 => ?_)
    · refine go ok_X6_goesOn ?_
      refine And.intro (Or.inl rfl) ?_
      exact q2 c (by omega)
    · refine go ok_X6_goesOn ?_
      refine And.intro (Or.inr rfl) ?_
      exact q1 c (by omega)
theorem c_passWord (hS : STH h) (hT : TXc tx h) (hi : i ≤ tx.length) {n : Nat} (hn : n < 11) (q1 : k = 0 → wAt tx (skp tx i) (wdS n) = true → run isLt tx (skp tx i) ≤ tx.length → Q (some (vi 1)) (tH h (run isLt tx (skp tx i)) k p)) (q2 : (k = 0 → wAt tx (skp tx i) (wdS n) = false) → Q (some (vi 0)) (tH h (skp tx i) k p)) : Con l w true (d + 5) HX6_passWord [vr 36, vr (2 + n)] (tH h i k p) 0 0 Q := by
  have h200 := hT.2.1
  have hle := skp_le hi
  obtain ⟨o1, o2, o3⟩ := wdS_ok n hn
  have hw := wAt_iff (tx := tx) (b := skp tx i) (ws := wdS n) o3
  have hS' : STH (tH h (skp tx i) k p) := hS
  refine Con.of ok_X6_passWord (nones := [none, none]) rfl (by simp) ?_
  refine go ok_X6_passWord ?_
  refine Cal.z (c_nextPlace hT hi ?_)
  generalize hb : skp tx i = b at *
  have t1 := (hS.2.2 n hn).1
  have no : wAt tx b (wdS n) = false → Q (some (vi 0)) (tH h b k p) := fun z => q2 (fun _ => z)
  have lp : ∀ m x, x + m = (wdS n).length → (∀ y, y < x → tAt tx (b + y) = (wdS n).getD y 0) → Ex l w true mX6_passWord (d + 5) Q 7 [some (vr 36), some (vr (2 + n)), some (vi (nI b)), some (vi (nI x))] [] (tH h b k p) 0 0 := by
    intro m
    induction m with
    | zero =>
      intro x hx ha
      have : x = (wdS n).length := by omega
      subst this
      refine go ok_X6_passWord ?_
      refine And.intro t1 ?_
      refine Cal.z (j_len hS' hn ?_)
      refine go ok_X6_passWord ?_
      refine asAnd ?_
      rw [nI_leI (by omega) (by omega)]
      refine And.intro (fun c => ?_) (fun c => ?_)
      · refine go ok_X6_passWord ?_
        refine asAnd ?_
        rw [show hI (tH h b k p) 451 36 = k from rfl]
        refine And.intro (fun c2 => ?_) (fun c2 => ?_)
        · refine go ok_X6_passWord ?_
          refine And.intro (Or.inl rfl) ?_
          exact q2 (fun z => absurd z c2)
        · refine go ok_X6_passWord ?_
          refine And.intro t1 ?_
          refine Cal.z (j_len hS' hn ?_)
          refine go ok_X6_passWord ?_
          refine asCal ?_
          rw [nI_add]
          refine Cal.z (c_byteAt (hT.t b k p) (by omega) ?_)
          refine go ok_X6_passWord ?_
          refine Cal.z (c_isLetter ?_)
          cases e : isLt (tAt tx (b + (wdS n).length)) with
          | true =>
            refine go ok_X6_passWord ?_
            refine And.intro (fun c3 => absurd c3 (by decide)) (fun c3 => ?_)
            refine go ok_X6_passWord ?_
            refine And.intro (Or.inl rfl) ?_
            exact no (by
              cases e2 : wAt tx b (wdS n) with
              | false => rfl
              | true => have := (hw.mp e2).2; rw [e] at this; cases this)
          | false =>
            have e2 := hw.mpr ⟨ha, e⟩
            have er := wAt_run e2
            have hbl : run isLt tx b ≤ tx.length := by rw [← hb] at hle ⊢; exact run_le rfl hle
            have q := q1 c2 e2 hbl
            rw [er, ← tH_i h b, ← nI_add] at q
            refine go ok_X6_passWord ?_
            refine And.intro (fun c3 => ?_) (fun c3 => absurd c3 (by decide))
            refine go ok_X6_passWord ?_
            refine And.intro t1 ?_
            refine Cal.z (j_len hS' hn ?_)
            refine go ok_X6_passWord ?_
            refine And.intro (Or.inr rfl) ?_
            exact q
      · omega
    | succ m ih =>
      intro x hx ha
      refine go ok_X6_passWord ?_
      refine And.intro t1 ?_
      refine Cal.z (j_len hS' hn ?_)
      refine go ok_X6_passWord ?_
      refine asAnd ?_
      rw [nI_leI (by omega) (by omega)]
      refine And.intro (fun c => ?_) (fun c => ?_)
      · omega
      · refine go ok_X6_passWord ?_
        refine asCal ?_
        rw [nI_add]
        refine Cal.z (c_byteAt (hT.t b k p) (by omega) ?_)
        refine go ok_X6_passWord ?_
        refine And.intro t1 ?_
        refine Cal.z (j_char hS' hn (by omega) ?_)
        refine go ok_X6_passWord ?_
        refine And.intro (fun c2 => ?_) (fun c2 => ?_)
        · have hh := ih (x + 1) (by omega) (fun y hy => by
            by_cases z : y = x
            · subst z; exact c2
            · exact ha y (by omega))
          rw [← nI_1] at hh
          refine go ok_X6_passWord ?_
          exact hh
        · refine go ok_X6_passWord ?_
          refine And.intro (Or.inl rfl) ?_
          exact no (by
            cases e2 : wAt tx b (wdS n) with
            | false => rfl
            | true => exact absurd ((hw.mp e2).1 x (by omega)) c2)
  refine go ok_X6_passWord ?_
  exact lp (wdS n).length 0 (by omega) (fun y hy => by omega)
theorem c_passSign (hT : TXc tx h) (hi : i ≤ tx.length) {c : Int32} (hc : c ≠ -1) (q1 : k = 0 → tAt tx (skp tx i) = c → skp tx i + 1 ≤ tx.length → Q (some (vi 1)) (tH h (skp tx i + 1) k p)) (q2 : k = 0 → ¬ tAt tx (skp tx i) = c → Q (some (vi 0)) (tH h (skp tx i) k p)) (q3 : ¬ k = 0 → Q (some (vi 0)) (tH h i k p)) : Con l w true (d + 2) HX6_passSign [vr 36, vi c] (tH h i k p) 0 0 Q := by
  have h200 := hT.2.1
  have hle := skp_le hi
  refine Con.of ok_X6_passSign (nones := []) rfl (by simp) ?_
  refine go ok_X6_passSign ?_
  refine asAnd ?_
  rw [show hI (tH h i k p) 451 36 = k from rfl]
  refine And.intro (fun c1 => ?_) (fun c1 => ?_)
  · refine go ok_X6_passSign ?_
    refine And.intro (Or.inl rfl) ?_
    exact q3 c1
  · refine go ok_X6_passSign ?_
    refine Cal.z (c_nextPlace hT hi ?_)
    refine go ok_X6_passSign ?_
    refine Cal.z (c_byteAt (hT.t _ k p) (by omega) ?_)
    refine go ok_X6_passSign ?_
    refine And.intro (fun c2 => ?_) (fun c2 => ?_)
    · have hlt : skp tx i < tx.length := by
        rcases Nat.lt_or_ge (skp tx i) tx.length with z | z
        · exact z
        · rw [tAt_out z] at c2; exact absurd c2.symm hc
      have q := q1 c1 c2 hlt
      rw [← tH_i h (skp tx i), ← nI_1] at q
      refine go ok_X6_passSign ?_
      refine And.intro (Or.inr rfl) ?_
      exact q
    · refine go ok_X6_passSign ?_
      refine And.intro (Or.inl rfl) ?_
      exact q2 c1 c2
theorem c_takeWord (hS : STH h) (hT : TXc tx h) (hi : i ≤ tx.length) {n : Nat} (hn : n < 11) (q1 : ∀ j, k = 0 → pWord tx (wdS n) i = .inr (j, ()) → j ≤ tx.length → Q none (tH h j 0 p)) (q2 : ∀ e pl i2, k = 0 → pWord tx (wdS n) i = .inl (e, pl) → ¬ e = 0 → i2 ≤ tx.length → Q none (tH h i2 e pl)) (q3 : ∀ i2, ¬ k = 0 → i2 ≤ tx.length → Q none (tH h i2 k p)) : Con l w true (d + 6) HX6_takeWord [vr 36, vr (2 + n)] (tH h i k p) 0 0 Q := by
  have hle := skp_le hi
  refine Con.of ok_X6_takeWord (nones := []) rfl (by simp) ?_
  refine go ok_X6_takeWord ?_
  refine Cal.z (c_passWord hS hT hi hn (fun k0 e hl => ?_) (fun e => ?_))
  · subst k0
    refine go ok_X6_takeWord ?_
    refine And.intro (fun c => ?_) (fun c => absurd c (by decide))
    refine go ok_X6_takeWord ?_
    exact q1 _ rfl (by unfold pWord; rw [if_pos e]) hl
  · refine go ok_X6_takeWord ?_
    refine And.intro (fun c => absurd c (by decide)) (fun c => ?_)
    refine go ok_X6_takeWord ?_
    refine Cal.z (c_fail (fun k0 => ?_) (fun k0 => ?_))
    · subst k0
      refine go ok_X6_takeWord ?_
      exact q2 1 _ _ rfl (by unfold pWord; rw [if_neg (by rw [e rfl]; decide)]; rfl) (by decide) hle
    · refine go ok_X6_takeWord ?_
      exact q3 _ k0 hle
theorem c_takeSign (hT : TXc tx h) (hi : i ≤ tx.length) {c : Int32} (hc : c ≠ -1) (q1 : ∀ j, k = 0 → pSign tx c i = .inr (j, ()) → j ≤ tx.length → Q none (tH h j 0 p)) (q2 : ∀ e pl i2, k = 0 → pSign tx c i = .inl (e, pl) → ¬ e = 0 → i2 ≤ tx.length → Q none (tH h i2 e pl)) (q3 : ∀ i2, ¬ k = 0 → i2 ≤ tx.length → Q none (tH h i2 k p)) : Con l w true (d + 3) HX6_takeSign [vr 36, vi c] (tH h i k p) 0 0 Q := by
  have hle := skp_le hi
  refine Con.of ok_X6_takeSign (nones := []) rfl (by simp) ?_
  refine go ok_X6_takeSign ?_
  refine Cal.z (c_passSign hT hi hc (fun k0 e hl => ?_) (fun k0 e => ?_) (fun k0 => ?_))
  · subst k0
    refine go ok_X6_takeSign ?_
    refine And.intro (fun c => ?_) (fun c => absurd c (by decide))
    refine go ok_X6_takeSign ?_
    exact q1 _ rfl (by unfold pSign; rw [if_pos e]) hl
  · subst k0
    refine go ok_X6_takeSign ?_
    refine And.intro (fun c => absurd c (by decide)) (fun c => ?_)
    refine go ok_X6_takeSign ?_
    refine Cal.z (c_fail (fun k0 => ?_) (fun k0 => absurd rfl k0))
    refine go ok_X6_takeSign ?_
    exact q2 1 _ _ rfl (by unfold pSign; rw [if_neg e]; rfl) (by decide) hle
  · refine go ok_X6_takeSign ?_
    refine And.intro (fun c => absurd c (by decide)) (fun c => ?_)
    refine go ok_X6_takeSign ?_
    refine Cal.z (c_fail (fun z => absurd z k0) (fun _ => ?_))
    refine go ok_X6_takeSign ?_
    exact q3 _ k0 hi
theorem c_takeNumber (hT : TXc tx h) (hi : i ≤ tx.length) {lo hi2 : Int32} (q1 : ∀ j v, k = 0 → pNum tx lo hi2 i = .inr (j, v) → j ≤ tx.length → Q (some (vi v)) (tH h j 0 p)) (q2 : ∀ e pl, k = 0 → pNum tx lo hi2 i = .inl (e, pl) → ¬ e = 0 → Q (some (vi lo)) (tH h (skp tx i) e pl)) (q3 : ¬ k = 0 → Q (some (vi lo)) (tH h (skp tx i) k p)) : Con l w true (d + 2) HX6_takeNumber [vr 36, vi lo, vi hi2] (tH h i k p) 0 0 Q := by
  have h200 := hT.2.1
  have hle := skp_le hi
  have hre := run_le (P := isDg) (tx := tx) rfl hle
  have hrg := run_ge (P := isDg) (tx := tx) rfl (skp tx i)
  have hall := fun k h1 h2 => run_all (P := isDg) (tx := tx) (i := skp tx i) (k := k) rfl h1 h2
  unfold pNum at q1 q2
  refine Con.of ok_X6_takeNumber (nones := [none, none, none]) rfl (by simp) ?_
  refine go ok_X6_takeNumber ?_
  refine Cal.z (c_nextPlace hT hi ?_)
  generalize hb : skp tx i = b at *
  generalize he : run isDg tx b = e at *
  have k102 : ∀ (k2 p2 : Int32), (k2 = 0 → Q (some (vi (cvN tx b (e - b)))) (tH h e k2 p2)) → (¬ k2 = 0 → Q (some (vi lo)) (tH h b k2 p2)) → Ex l w true mX6_takeNumber (d + 2) Q 102 [some (vr 36), some (vi lo), some (vi hi2), some (vi (nI b)), some (vi (cvN tx b (e - b))), some (vi (nI e))] [] (tH h b k2 p2) 0 0 := by
    intro k2 p2 x1 x2
    refine go ok_X6_takeNumber ?_
    refine asAnd ?_
    rw [show hI (tH h b k2 p2) 451 36 = k2 from rfl]
    refine And.intro (fun c => ?_) (fun c => ?_)
    · have q := x1 c
      rw [← tH_i h b] at q
      refine go ok_X6_takeNumber ?_
      exact q
    · refine go ok_X6_takeNumber ?_
      exact x2 c
  have k61 : Ex l w true mX6_takeNumber (d + 2) Q 61 [some (vr 36), some (vi lo), some (vi hi2), some (vi (nI b)), some (vi (cvN tx b (e - b))), some (vi (nI e))] [] (tH h b k p) 0 0 := by
    have k96 : (k = 0 → ¬ e = b ∧ ¬ (e - b < 4 ∧ (lo ≤ rvN tx b (e - b) ∧ rvN tx b (e - b) ≤ hi2))) → Ex l w true mX6_takeNumber (d + 2) Q 96 [some (vr 36), some (vi lo), some (vi hi2), some (vi (nI b)), some (vi (cvN tx b (e - b))), some (vi (nI e))] [] (tH h b k p) 0 0 := by
      intro z
      refine go ok_X6_takeNumber ?_
      refine Cal.z (c_fail (fun k0 => ?_) (fun k0 => ?_))
      · exact k102 _ _ (fun y => absurd y (by decide)) (fun _ => q2 2 _ k0 (by rw [if_neg (z k0).1, if_neg (z k0).2]) (by decide))
      · exact k102 _ _ (fun y => absurd y k0) (fun _ => q3 k0)
    refine go ok_X6_takeNumber ?_
    refine asAnd ?_
    rw [nI_eq (by omega) (by omega)]
    refine And.intro (fun c => ?_) (fun c => ?_)
    · refine go ok_X6_takeNumber ?_
      refine asAnd ?_
      rw [i32_sub_nI hrg, show (3 : Int32) = nI 3 from rfl, nI_ltI (by omega) (by omega)]
      refine And.intro (fun c2 => ?_) (fun c2 => ?_)
      · exact k96 (fun _ => ⟨c, fun y => by omega⟩)
      · obtain ⟨m, hm, e1, e2⟩ := cv_rv (tx := tx) (i := b) (e - b) (by omega) (fun k hk => hall (b + k) (by omega) (by omega))
        rw [e2, ← e1] at k96
        refine go ok_X6_takeNumber ?_
        refine And.intro (fun c3 => ?_) (fun c3 => ?_)
        · exact k96 (fun _ => ⟨c, fun y => by have := y.2.1; rw [Int32.lt_iff_toInt_lt] at c3; rw [Int32.le_iff_toInt_le] at this; omega⟩)
        · refine go ok_X6_takeNumber ?_
          refine And.intro (fun c4 => ?_) (fun c4 => ?_)
          · refine k102 _ _ (fun k0 => ?_) q3
            have q := q1 e (cvN tx b (e - b)) k0 (by rw [if_neg c, e2, ← e1, if_pos ⟨by omega, by simpa using c3, c4⟩]) hre
            rw [k0]
            exact q
          · exact k96 (fun _ => ⟨c, fun y => c4 y.2.2⟩)
    · refine go ok_X6_takeNumber ?_
      refine Cal.z (c_fail (fun k0 => ?_) (fun k0 => ?_))
      · refine go ok_X6_takeNumber ?_
        exact k102 _ _ (fun y => absurd y (by decide)) (fun _ => q2 1 _ k0 (by rw [if_pos c]) (by decide))
      · refine go ok_X6_takeNumber ?_
        exact k102 _ _ (fun y => absurd y k0) (fun _ => q3 k0)
  have lp : ∀ m x, x + m = e - b → Ex l w true mX6_takeNumber (d + 2) Q 11 [some (vr 36), some (vi lo), some (vi hi2), some (vi (nI b)), some (vi (cvN tx b x)), some (vi (nI (b + x)))] [] (tH h b k p) 0 0 := by
    intro m
    induction m with
    | zero =>
      intro x hx
      have : b + x = e := by omega
      rw [this, show x = e - b by omega]
      refine go ok_X6_takeNumber ?_
      refine asAnd ?_
      rw [show hI (tH h b k p) 449 36 = nI tx.length from hT.1, nI_leI (by omega) (by omega)]
      refine And.intro (fun c => ?_) (fun c => ?_)
      · exact k61
      · refine go ok_X6_takeNumber ?_
        refine Cal.z (c_byteAt (hT.t b k p) (by omega) ?_)
        refine go ok_X6_takeNumber ?_
        refine Cal.z (c_isFigure ?_)
        have e0 : isDg (tAt tx e) = false := by rw [← he]; exact run_end rfl b
        rw [e0]
        refine go ok_X6_takeNumber ?_
        refine And.intro (fun c2 => ?_) (fun c2 => absurd c2 (by decide))
        exact k61
    | succ m ih =>
      intro x hx
      have hh := ih (x + 1) (by omega)
      rw [cvN, ← Nat.add_assoc, ← nI_1] at hh
      refine go ok_X6_takeNumber ?_
      refine asAnd ?_
      rw [show hI (tH h b k p) 449 36 = nI tx.length from hT.1, nI_leI (by omega) (by omega)]
      refine And.intro (fun c => ?_) (fun c => ?_)
      · omega
      · refine go ok_X6_takeNumber ?_
        refine Cal.z (c_byteAt (hT.t b k p) (by omega) ?_)
        refine go ok_X6_takeNumber ?_
        refine Cal.z (c_isFigure ?_)
        rw [hall (b + x) (by omega) (by omega)]
        refine go ok_X6_takeNumber ?_
        refine And.intro (fun c2 => absurd c2 (by decide)) (fun c2 => ?_)
        refine go ok_X6_takeNumber ?_
        refine Cal.z (c_byteAt (hT.t b k p) (by omega) ?_)
        refine go ok_X6_takeNumber ?_
        exact hh
  refine go ok_X6_takeNumber ?_
  exact lp (e - b) 0 (by omega)
end C25

