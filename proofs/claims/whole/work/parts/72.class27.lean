/-! ===== the class: clauses of rights ===== -/
theorem ext_gD {x y : List Int32} (h1 : x.length = y.length) (h2 : ∀ i, i < x.length → x.getD i 0 = y.getD i 0) : x = y := by
  refine List.ext_getElem h1 (fun i hi hj => ?_)
  have := h2 i hi
  rw [List.getD_eq_getElem?_getD, List.getD_eq_getElem?_getD, List.getElem?_eq_getElem hi, List.getElem?_eq_getElem hj] at this
  exact this
theorem bit_eq : ∀ m, m < 6 → ∀ x, x < 6 → (((1 : Int32) <<< (nI m &&& 31) = 1 <<< (nI x &&& 31)) ↔ m = x) := by decide
theorem l_has {x : Int64} {m : Nat} (hm : m < 64) : x &&& ((1 : Int64) <<< ((nI m).toInt64 &&& 63)) = 0 ↔ bl x m = false := by
  constructor
  · intro e
    have := congrArg (fun y => bl y m) e
    simp only [l_and, l_0] at this
    rw [l_bit hm hm, decide_eq_true rfl, Bool.and_true] at this
    exact this
  · intro e
    refine l_ext (fun j hj => ?_)
    rw [l_and, l_bit hm hj, l_0]
    by_cases c : j = m
    · rw [c, e, Bool.false_and]
    · rw [decide_eq_false c, Bool.and_false]
section C27
variable {l : Launch} {w : WD} {d : Nat} {h h0 : AH} {Q : Option AV → AH → Prop} {tx : List Int32} {i j a : Nat} {k p : Int32} {R : NR}
theorem pNum_skp (tx : List Int32) (lo hi : Int32) (i : Nat) : pNum tx lo hi (skp tx i) = pNum tx lo hi i := by unfold pNum; rw [skp_skp]
theorem pWord_skp (tx ws : List Int32) (i : Nat) : pWord tx ws (skp tx i) = pWord tx ws i := by unfold pWord; rw [skp_skp]
theorem c_readDoor (hT : TXc tx h) (hi : i ≤ tx.length) {told : Int32} (q1 : ∀ j m, pNum tx 0 5 i = .inr (j, nI m) → m < 6 → j ≤ tx.length → bt told m = false → Q (some (vi (1 <<< (nI m &&& 31)))) (tH h j 0 p)) (q2 : ∀ j m, pNum tx 0 5 i = .inr (j, nI m) → m < 6 → j ≤ tx.length → bt told m = true → Q (some (vi (1 <<< (nI m &&& 31)))) (tH h j 3 (nI (skp tx i))))
    (q3 : ∀ e pl i2 m, pNum tx 0 5 i = .inl (e, pl) → ¬ e = 0 → i2 ≤ tx.length → m < 6 → Q (some (vi (1 <<< (nI m &&& 31)))) (tH h i2 e pl)) : Con l w true (d + 3) HX5_readDoor [vr 36, vi told] (tH h i 0 p) 0 0 Q := by
  have hle := skp_le hi
  refine Con.of ok_X5_readDoor (nones := [none, none]) rfl (by simp) ?_
  refine go ok_X5_readDoor ?_
  refine Cal.z (c_nextPlace hT hi ?_)
  refine go ok_X5_readDoor ?_
  refine Cal.z (c_takeNumber hT hle (fun j v _ e hl => ?_) (fun e pl _ e2 he => ?_) (fun z => absurd rfl z))
  · rw [pNum_skp] at e
    obtain ⟨v1, v2, -, -⟩ := pNum_ok e hi
    obtain ⟨m, hm, rfl⟩ := natOf (n := 5) (by decide) v1 v2
    refine go ok_X5_readDoor ?_
    refine asAnd ?_
    rw [b_has (by omega)]
    refine And.intro (fun c => ?_) (fun c => ?_)
    · refine go ok_X5_readDoor ?_
      exact q1 j m e (by omega) hl c
    · refine go ok_X5_readDoor ?_
      refine Cal.z (c_fail (fun _ => ?_) (fun z => absurd rfl z))
      refine go ok_X5_readDoor ?_
      exact q2 j m e (by omega) hl (by simpa using c)
  · rw [pNum_skp] at e2
    have q := q3 e pl (skp tx (skp tx i)) 0 e2 he (skp_le hle) (by decide)
    refine go ok_X5_readDoor ?_
    refine And.intro (fun c => ?_) (fun c => ?_)
    · refine go ok_X5_readDoor ?_
      exact q
    · refine go ok_X5_readDoor ?_
      refine Cal.z (c_fail (fun z => absurd z he) (fun _ => ?_))
      refine go ok_X5_readDoor ?_
      exact q
theorem let_lp (ha : a = 54 ∨ a = 56) {m : Nat} (hm : m < 6) {v : Int32} (q : Q none (tH (tI h (a + 1) ((aI h (a + 1)).set m v)) i k p)) : Ex l w true mX5_readLet d Q 36 [some (vr a), some (vr 36), some (vi (1 <<< (nI m &&& 31))), some (vi v), some (vi (nI 0))] [] (tH h i k p) 0 0 := by
  refine Ex.lay (fun hy0 => ?_)
  obtain ⟨y1, y2, y3, y4⟩ := ri_lets hy0 ha
  replace y4 : (aI h (a + 1)).length = 6 := y4
  have lp : ∀ n x r, x + n = 6 → r.length = 6 → (∀ y, y < 6 → r.getD y 0 = if y = m ∧ y < x then v else (aI h (a + 1)).getD y 0) → Ex l w true mX5_readLet d Q 36 [some (vr a), some (vr 36), some (vi (1 <<< (nI m &&& 31))), some (vi v), some (vi (nI x))] [] (tH (tI h (a + 1) r) i k p) 0 0 := by
    intro n
    induction n with
    | zero =>
      intro x r hx hr e
      have : x = 6 := by omega
      subst this
      have er : r = (aI h (a + 1)).set m v := ext_gD (by rw [List.length_set]; omega) (fun y hy => by
        rw [e y (by omega), getD_set]
        by_cases c : y = m
        · rw [if_pos ⟨c, by omega⟩, if_pos ⟨c, by omega⟩]
        · rw [if_neg (fun z => c z.1), if_neg (fun z => c z.1)])
      refine Ex.lay (fun hy => ?_)
      obtain ⟨y1, y2, y3, y4⟩ := ri_lets hy ha
      refine go ok_X5_readLet ?_
      refine And.intro y1 ?_
      refine Or.inl ⟨by rw [y2]; exact y3, ?_⟩
      refine asAnd ?_
      rw [y2, y4]
      refine And.intro (fun c => ?_) (fun c => absurd c (by decide))
      refine go ok_X5_readLet ?_
      rw [er]
      exact q
    | succ n ih =>
      intro x r hx hr e
      have nx : ∀ u, u = (if x = m then v else r.getD x 0) → Ex l w true mX5_readLet d Q 36 [some (vr a), some (vr 36), some (vi (1 <<< (nI m &&& 31))), some (vi v), some (vi (nI x + 1))] [] (tI (tH (tI h (a + 1) r) i k p) (a + 1) (r.set x u)) 0 0 := by
        intro u hu
        have hh := ih (x + 1) (r.set x u) (by omega) (by rw [List.length_set]; exact hr) (fun y hy => by
          rw [getD_set]
          by_cases c : y = x
          · rw [if_pos ⟨c, by omega⟩, hu]
            by_cases c2 : x = m
            · rw [if_pos c2, if_pos ⟨by omega, by omega⟩]
            · rw [if_neg c2, if_neg (by omega), ← c, e y hy, if_neg (by omega)]
          · rw [if_neg (by omega), e y hy]
            by_cases c2 : y = m ∧ y < x
            · rw [if_pos c2, if_pos ⟨c2.1, by omega⟩]
            · rw [if_neg c2, if_neg (by omega)])
        rw [← tI_tI h (a + 1) r, ← tH_t, ← nI_1] at hh
        exact hh
      have er : aI (tH (tI h (a + 1) r) i k p) (a + 1) = r := by show up1 (aI h) (a + 1) r (a + 1) = r; exact up1_eq
      refine Ex.lay (fun hy => ?_)
      obtain ⟨y1, y2, y3, y4⟩ := ri_lets hy ha
      refine go ok_X5_readLet ?_
      refine And.intro y1 ?_
      refine Or.inl ⟨by rw [y2]; exact y3, ?_⟩
      refine asAnd ?_
      rw [y2, y4, nI_leI (by omega) (by omega)]
      refine And.intro (fun c => ?_) (fun c => ?_)
      · omega
      · refine go ok_X5_readLet ?_
        refine And.intro y1 ?_
        refine asAnd ?_
        rw [y2, bit_eq m hm x (by omega)]
        refine And.intro (fun c2 => ?_) (fun c2 => ?_)
        · refine go ok_X5_readLet ?_
          refine And.intro y1 ?_
          refine asAnd ?_
          rw [y2]
          refine And.intro ⟨Or.inl y3, by rw [y4]; exact ix_of rfl (by omega) (by omega)⟩ ?_
          refine And.intro ⟨y3, by rw [y4]; exact ix_of rfl (by omega) (by omega)⟩ ?_
          rw [nI_clamp (n := x) (by omega), er]
          exact nx _ (by rw [if_neg (fun z => c2 z.symm)])
        · refine go ok_X5_readLet ?_
          refine And.intro ⟨y3, by rw [y4]; exact ix_of rfl (by omega) (by omega)⟩ ?_
          rw [nI_clamp (n := x) (by omega), er]
          exact nx _ (by rw [if_pos c2.symm])
  have hh := lp 6 0 (aI h (a + 1)) (by omega) y4 (fun y hy => by rw [if_neg (by omega)])
  rw [tI_self] at hh
  exact hh
end C27

