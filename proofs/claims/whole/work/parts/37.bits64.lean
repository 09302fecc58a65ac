/-! ===== Int64 by its bits; how many there are ===== -/
def bl (x : Int64) (i : Nat) : Bool := x.toBitVec.getLsbD i
theorem l_ext {x y : Int64} (h : ∀ i, i < 64 → bl x i = bl y i) : x = y := Int64.toBitVec_inj.mp (BitVec.eq_of_getLsbD_eq (fun i hi => h i hi))
theorem l_or (x y : Int64) (i : Nat) : bl (x ||| y) i = (bl x i || bl y i) := by unfold bl; rw [Int64.toBitVec_or, BitVec.getLsbD_or]
theorem l_and (x y : Int64) (i : Nat) : bl (x &&& y) i = (bl x i && bl y i) := by unfold bl; rw [Int64.toBitVec_and, BitVec.getLsbD_and]
theorem l_xor (x y : Int64) (i : Nat) : bl (x ^^^ y) i = (bl x i ^^ bl y i) := by unfold bl; rw [Int64.toBitVec_xor, BitVec.getLsbD_xor]
theorem l_big {x : Int64} {i : Nat} (h : 64 ≤ i) : bl x i = false := BitVec.getLsbD_of_ge _ _ h
theorem l_0 (i : Nat) : bl 0 i = false := BitVec.getLsbD_zero
theorem l_m1 : ∀ i, i < 64 → bl (-1) i = true := by decide +kernel
theorem l_1 (i : Nat) : bl 1 i = decide (i = 0) := by
  rcases Nat.lt_or_ge i 64 with h | h
  · exact (by decide +kernel : ∀ i, i < 64 → bl 1 i = decide (i = 0)) i h
  · rw [l_big h, decide_eq_false (by omega)]
theorem l_not (x : Int64) {i : Nat} (hi : i < 64) : bl (x ^^^ (-1)) i = !bl x i := by rw [l_xor, l_m1 i hi]; cases bl x i <;> rfl
theorem ls_l : ∀ n, n < 64 → (((nI n).toInt64 &&& 63).toBitVec.smod 64).toNat = n := by decide +kernel
theorem ls_u : ∀ n, n < 64 → (((nI n).toInt64.toUInt64 &&& Int64.toUInt64 63).toBitVec % 64).toNat = n := by decide +kernel
theorem l_shl {n : Nat} (hn : n < 64) (x : Int64) {i : Nat} (hi : i < 64) : bl (x <<< ((nI n).toInt64 &&& 63)) i = (decide (n ≤ i) && bl x (i - n)) := by
  unfold bl
  rw [Int64.toBitVec_shiftLeft]
  show (x.toBitVec <<< (((nI n).toInt64 &&& 63).toBitVec.smod 64).toNat).getLsbD i = _
  rw [ls_l n hn, BitVec.getLsbD_shiftLeft]
  rcases Nat.lt_or_ge i n with h | h
  · simp [h, Nat.not_le.mpr h]
  · simp [hi, h, Nat.not_lt.mpr h]
theorem l_ushr {n : Nat} (hn : n < 64) (x : Int64) (i : Nat) : bl ((x.toUInt64 >>> ((nI n).toInt64.toUInt64 &&& Int64.toUInt64 63)).toInt64) i = bl x (n + i) := by
  show (x.toUInt64 >>> ((nI n).toInt64.toUInt64 &&& Int64.toUInt64 63)).toBitVec.getLsbD i = x.toUInt64.toBitVec.getLsbD (n + i)
  rw [UInt64.toBitVec_shiftRight]
  show (x.toUInt64.toBitVec >>> (((nI n).toInt64.toUInt64 &&& Int64.toUInt64 63).toBitVec % 64).toNat).getLsbD i = _
  rw [ls_u n hn, BitVec.getLsbD_ushiftRight]
theorem l_sshr {n : Nat} (hn : n < 64) (x : Int64) {i : Nat} (hi : i < 64) : bl (x >>> ((nI n).toInt64 &&& 63)) i = if n + i < 64 then bl x (n + i) else bl x 63 := by
  unfold bl
  rw [Int64.toBitVec_shiftRight]
  show (x.toBitVec.sshiftRight (((nI n).toInt64 &&& 63).toBitVec.smod 64).toNat).getLsbD i = _
  rw [ls_l n hn, BitVec.getLsbD_sshiftRight, BitVec.msb_eq_getLsbD_last]
  simp [hi]
theorem l_bit {k i : Nat} (hk : k < 64) (hi : i < 64) : bl ((1 : Int64) <<< ((nI k).toInt64 &&& 63)) i = decide (i = k) := by
  rw [l_shl hk 1 hi, l_1]
  by_cases c : i = k
  · subst c; simp
  · by_cases c2 : k ≤ i
    · rw [decide_eq_true c2, decide_eq_false c, decide_eq_false (by omega)]; rfl
    · rw [decide_eq_false c2, decide_eq_false c]; rfl
theorem l_get {x : Int64} {k : Nat} (hk : k < 64) : (x >>> ((nI k).toInt64 &&& 63)) &&& 1 = if bl x k = true then 1 else 0 := by
  apply l_ext
  intro i hi
  rw [l_and, l_1, l_sshr hk x hi]
  by_cases c : i = 0
  · subst c
    rw [if_pos (by omega), Nat.add_zero, decide_eq_true rfl, Bool.and_true]
    cases bl x k
    · rw [if_neg (by decide), l_0]
    · rw [if_pos rfl, l_1]; rfl
  · rw [decide_eq_false c, Bool.and_false]
    split
    · rw [l_1, decide_eq_false c]
    · rw [l_0]
theorem l_get0 {x : Int64} {k : Nat} (hk : k < 64) : (x >>> ((nI k).toInt64 &&& 63)) &&& 1 = 0 ↔ bl x k = false := by
  rw [l_get hk]
  cases bl x k <;> simp
theorem l_get1 {x : Int64} {k : Nat} (hk : k < 64) : (x >>> ((nI k).toInt64 &&& 63)) &&& 1 = 1 ↔ bl x k = true := by
  rw [l_get hk]
  cases bl x k <;> simp
/-- how many of the first n -/
def ctB (f : Nat → Bool) : Nat → Nat
  | 0 => 0
  | n + 1 => ctB f n + (if f n = true then 1 else 0)
theorem ctB_le (f : Nat → Bool) : ∀ n, ctB f n ≤ n
  | 0 => Nat.le_refl _
  | n + 1 => by have := ctB_le f n; rw [ctB]; split <;> omega
theorem ctB_mono (f : Nat → Bool) {m : Nat} : ∀ n, ctB f m ≤ ctB f (m + n)
  | 0 => Nat.le_refl _
  | n + 1 => by have := ctB_mono f (m := m) n; rw [← Nat.add_assoc, ctB]; omega
theorem ctB_cong {f g : Nat → Bool} : ∀ n, (∀ i, i < n → f i = g i) → ctB f n = ctB g n
  | 0, _ => rfl
  | n + 1, h => by rw [ctB, ctB, ctB_cong n (fun i hi => h i (by omega)), h n (by omega)]
theorem ctB_add (f : Nat → Bool) (m : Nat) : ∀ n, ctB f (m + n) = ctB f m + ctB (fun i => f (m + i)) n
  | 0 => rfl
  | n + 1 => by rw [← Nat.add_assoc, ctB, ctB_add f m n, ctB]; omega
theorem onesR_ct (s : Int64) : ∀ n, n ≤ 64 → onesR s n = nI (ctB (bl s) n)
  | 0, _ => rfl
  | n + 1, h => by
    rw [onesR, onesR_ct s n (by omega), l_get (by omega), ctB]
    cases bl s n
    · show nI (ctB (bl s) n) + 0 = nI (ctB (bl s) n + 0)
      rw [Int32.add_zero, Nat.add_zero]
    · exact nI_1 _
theorem ons_ct (s : Int64) : ons s = nI (ctB (bl s) 64) := onesR_ct s 64 (Nat.le_refl _)
theorem bl_ext (x : Int32) {k : Nat} (hk : k < 64) : bl x.toInt64 k = if k < 32 then bt x k else bt x 31 := by
  unfold bl bt
  rw [Int32.toBitVec_toInt64, BitVec.getLsbD_signExtend]
  simp only [hk, decide_true, Bool.true_and]
  split
  · rfl
  · rw [BitVec.msb_eq_getLsbD_last]
theorem bt_31 {x : Int32} (h : 0 ≤ x) : bt x 31 = false := by
  unfold bt
  have : x.toBitVec.msb = false := by
    rw [BitVec.msb_eq_toInt]
    have h1 : (0 : Int) ≤ x.toInt := by have := Int32.le_iff_toInt_le.mp h; simpa using this
    exact decide_eq_false (by show ¬ x.toInt < 0; omega)
  rw [BitVec.msb_eq_getLsbD_last] at this
  exact this
/-- a set of pages, of twelve at most -/
theorem b_high {x : Int32} {n : Nat} (hn : n < 32) (h0 : 0 ≤ x) (h1 : x >>> (nI n &&& 31) = 0) : ∀ i, n ≤ i → bt x i = false := by
  intro i hi
  rcases Nat.lt_or_ge i 32 with z | z
  · have := congrArg (fun y => bt y (i - n)) h1
    simp only [b_0] at this
    rw [b_sshr n hn x (by omega), if_pos (by omega), show n + (i - n) = i by omega] at this
    exact this
  · exact b_big z
theorem ons_set {x : Int32} {n : Nat} (hn : n < 32) (h0 : 0 ≤ x) (h1 : x >>> (nI n &&& 31) = 0) : ons x.toInt64 = nI (ctB (bt x) n) := by
  rw [ons_ct]
  congr 1
  rw [show 64 = n + (64 - n) by omega, ctB_add]
  have e1 : ctB (bl x.toInt64) n = ctB (bt x) n := ctB_cong n (fun i hi => by rw [bl_ext x (by omega), if_pos (by omega)])
  have e2 : ctB (fun i => bl x.toInt64 (n + i)) (64 - n) = 0 := by
    rw [ctB_cong (g := fun _ => false) _ (fun i hi => ?_)]
    · generalize 64 - n = m
      induction m with
      | zero => rfl
      | succ m ih => rw [ctB, ih]; rfl
    · rw [bl_ext x (by omega)]
      split
      · exact b_high hn h0 h1 _ (by omega)
      · exact bt_31 h0
  rw [e1, e2, Nat.add_zero]

