/-! ===== the class: rights are read ===== -/
/-- but the cells of the rights that are read -/
def RB (a : Nat) (h h' : AH) : Prop := (hC h' = hC h ∧ hR h' = hR h ∧ aL h' = aL h ∧ aR h' = aR h ∧ hZ h' = hZ h) ∧ (∀ f x, ¬ (x = a ∧ 385 ≤ f ∧ f ≤ 389) → hI h' f x = hI h f x) ∧ (∀ f x, ¬ (x = a ∧ f = 390) → hL h' f x = hL h f x) ∧ ∀ x, ¬ x = a + 1 → aI h' x = aI h x
section C26
variable {l : Launch} {w : WD} {d : Nat} {h h0 : AH} {Q : Option AV → AH → Prop} {tx : List Int32} {i j a : Nat} {k p : Int32}
theorem RB.rf (a : Nat) (h : AH) : RB a h h := ⟨⟨rfl, rfl, rfl, rfl, rfl⟩, fun _ _ _ => rfl, fun _ _ _ => rfl, fun _ _ => rfl⟩
theorem RB.s (b : RB a h0 h) {f : Nat} {v : Int32} (hf : 385 ≤ f ∧ f ≤ 389) : RB a h0 (sI h f a v) := ⟨b.1, fun g x hx => by
  rw [hI_sI, if_neg (fun z => hx ⟨z.2, by omega⟩)]
  exact b.2.1 g x hx, b.2.2.1, b.2.2.2⟩
theorem RB.sl (b : RB a h0 h) {v : Int64} : RB a h0 (sL h 390 a v) := ⟨b.1, b.2.1, fun g x hx => by
  rw [hL_sL, if_neg (fun z => hx ⟨z.2, z.1⟩)]
  exact b.2.2.1 g x hx, b.2.2.2⟩
theorem RB.t (b : RB a h0 h) {v : List Int32} : RB a h0 (tI h (a + 1) v) := ⟨b.1, b.2.1, b.2.2.1, fun x hx => by
  rw [aI_tI, if_neg hx]
  exact b.2.2.2 x hx⟩
theorem RB.txt (b : RB a h0 h) (ha : a = 54 ∨ a = 56) (hT : TXc tx h0) : TXc tx h := by
  obtain ⟨t1, t2, t3⟩ := hT
  refine ⟨by rw [b.2.1 449 36 (by omega)]; exact t1, t2, fun i hi => ?_⟩
  rw [b.2.2.2 37 (by omega)]
  exact t3 i hi
theorem RB.st (b : RB a h0 h) (ha : a = 54 ∨ a = 56) (hS : STH h0) : STH h := by
  obtain ⟨s1, s2, s3⟩ := hS
  refine ⟨by rw [b.1.1]; exact s1, by rw [b.1.2.2.2.1]; exact s2, fun i hi => ?_⟩
  rw [b.1.1, b.1.2.1, b.2.1 705 (2 + i) (by omega), b.2.2.2 (13 + i) (by omega)]
  exact s3 i hi
theorem ri_lets (hy : Lay h) (ha : a = 54 ∨ a = 56) : hC h a = 7 ∧ hR h 384 a = a + 1 ∧ hC h (a + 1) = 101 ∧ (aI h (a + 1)).length = 6 := by
  rcases ha with z | z
  · subst z; exact ⟨yc54 hy, yr384_54 hy, yc55 hy, yn55 hy⟩
  · subst z; exact ⟨yc56 hy, yr384_56 hy, yc57 hy, yn57 hy⟩
theorem tH_s {f : Nat} {v : Int32} (hf : 385 ≤ f ∧ f ≤ 389) : sI (tH h i k p) f a v = tH (sI h f a v) i k p := by
  unfold tH
  rw [sI_cm _ p v (by omega), sI_cm _ k v (by omega), sI_cm _ (nI i) v (by omega)]
theorem sL_sI (h : AH) {f a g b : Nat} (v : Int32) (u : Int64) : sL (sI h f a v) g b u = sI (sL h g b u) f a v := rfl
theorem tI_sI (h : AH) {f a b : Nat} (v : Int32) (u : List Int32) : tI (sI h f a v) b u = sI (tI h b u) f a v := rfl
theorem tH_sl {v : Int64} {g : Nat} : sL (tH h i k p) g a v = tH (sL h g a v) i k p := by
  unfold tH
  rw [sL_sI, sL_sI, sL_sI]
theorem tH_t {b : Nat} {v : List Int32} : tI (tH h i k p) b v = tH (tI h b v) i k p := by
  unfold tH
  rw [tI_sI, tI_sI, tI_sI]
theorem tH_first (X : AH) : tH (sL (sI (sI (sI (sI (sI X 385 a 0) 386 a 0) 387 a 0) 388 a 8) 389 a 24) 390 a 0) i k p = sL (sI (sI (sI (sI (sI (tH X i k p) 385 a 0) 386 a 0) 387 a 0) 388 a 8) 389 a 24) 390 a 0 := by
  rw [tH_s (by decide), tH_s (by decide), tH_s (by decide), tH_s (by decide), tH_s (by decide), tH_sl]
/-- rights that are read stand so -/
def NRc (R : NR) (a : Nat) (h : AH) : Prop := (R.1.1.length = 6 ∧ aI h (a + 1) = R.1.2.1) ∧ (∀ k, k < 6 → bt (hI h 385 a) k = R.2 k ∧ R.2 k = !decide (R.1.1.getD k 0 = 0) ∧ bt (hI h 386 a) k = R.2 (6 + k)) ∧ (∀ k, k < 3 → bt (hI h 387 a) k = R.2 (12 + k)) ∧ hI h 388 a = R.1.2.2.1 ∧ hI h 389 a = R.1.2.2.2.1 ∧ hL h 390 a = R.1.2.2.2.2
theorem NRc_first {X : AH} (e : aI X (a + 1) = [1, 1, 1, 1, 1, 1]) : NRc nr0 a (sL (sI (sI (sI (sI (sI X 385 a 0) 386 a 0) 387 a 0) 388 a 8) 389 a 24) 390 a 0) := by
  have e0 : aI (sL (sI (sI (sI (sI (sI X 385 a 0) 386 a 0) 387 a 0) 388 a 8) 389 a 24) 390 a 0) (a + 1) = [1, 1, 1, 1, 1, 1] := by
    rw [aI_sL, aI_sI, aI_sI, aI_sI, aI_sI, aI_sI]; exact e
  have e1 : hI (sL (sI (sI (sI (sI (sI X 385 a 0) 386 a 0) 387 a 0) 388 a 8) 389 a 24) 390 a 0) 385 a = 0 := by
    rw [hI_sL, hI_sI, if_neg (by omega), hI_sI, if_neg (by omega), hI_sI, if_neg (by omega), hI_sI, if_neg (by omega), hI_sI, if_pos ⟨rfl, rfl⟩]
  have e2 : hI (sL (sI (sI (sI (sI (sI X 385 a 0) 386 a 0) 387 a 0) 388 a 8) 389 a 24) 390 a 0) 386 a = 0 := by
    rw [hI_sL, hI_sI, if_neg (by omega), hI_sI, if_neg (by omega), hI_sI, if_neg (by omega), hI_sI, if_pos ⟨rfl, rfl⟩]
  have e3 : hI (sL (sI (sI (sI (sI (sI X 385 a 0) 386 a 0) 387 a 0) 388 a 8) 389 a 24) 390 a 0) 387 a = 0 := by
    rw [hI_sL, hI_sI, if_neg (by omega), hI_sI, if_neg (by omega), hI_sI, if_pos ⟨rfl, rfl⟩]
  have e4 : hI (sL (sI (sI (sI (sI (sI X 385 a 0) 386 a 0) 387 a 0) 388 a 8) 389 a 24) 390 a 0) 388 a = 8 := by
    rw [hI_sL, hI_sI, if_neg (by omega), hI_sI, if_pos ⟨rfl, rfl⟩]
  have e5 : hI (sL (sI (sI (sI (sI (sI X 385 a 0) 386 a 0) 387 a 0) 388 a 8) 389 a 24) 390 a 0) 389 a = 24 := by
    rw [hI_sL, hI_sI, if_pos ⟨rfl, rfl⟩]
  have e6 : hL (sL (sI (sI (sI (sI (sI X 385 a 0) 386 a 0) 387 a 0) 388 a 8) 389 a 24) 390 a 0) 390 a = 0 := by
    rw [hL_sL, if_pos ⟨rfl, rfl⟩]
  generalize sL (sI (sI (sI (sI (sI X 385 a 0) 386 a 0) 387 a 0) 388 a 8) 389 a 24) 390 a 0 = Y at *
  refine ⟨⟨rfl, e0⟩, fun k hk => ?_, fun k hk => ?_, e4, e5, e6⟩
  · have : k = 0 ∨ k = 1 ∨ k = 2 ∨ k = 3 ∨ k = 4 ∨ k = 5 := by omega
    rw [e1, e2, b_0]
    rcases this with z | z | z | z | z | z <;> subst z <;> exact ⟨rfl, rfl, rfl⟩
  · rw [e3, b_0]
    rfl
theorem c_becomeFirst (ha : a = 54 ∨ a = 56) (b : RB a h0 h) (q : ∀ h', RB a h0 h' → NRc nr0 a h' → Q none (tH h' i k p)) : Con l w true d HX5_becomeFirst [vr a] (tH h i k p) 0 0 Q := by
  have lp : ∀ n m r, m + n = 6 → r.length = 6 → (∀ x, x < m → r.getD x 0 = 1) → Ex l w true mX5_becomeFirst d Q 2 [some (vr a), some (vi (nI m))] [] (tH (tI h (a + 1) r) i k p) 0 0 := by
    intro n
    induction n with
    | zero =>
      intro m r hm hr e
      have : m = 6 := by omega
      subst this
      have er : r = [1, 1, 1, 1, 1, 1] := list6 hr e
      have q := q (sL (sI (sI (sI (sI (sI (tI h (a + 1) r) 385 a 0) 386 a 0) 387 a 0) 388 a 8) 389 a 24) 390 a 0) ((((((b.t).s (by decide)).s (by decide)).s (by decide)).s (by decide)).s (by decide)).sl (by
        exact NRc_first (by rw [aI_tI, if_pos rfl, er]))
      rw [tH_first] at q
      refine Ex.lay (fun hy => ?_)
      obtain ⟨y1, y2, y3, y4⟩ := ri_lets hy ha
      refine go ok_X5_becomeFirst ?_
      refine And.intro y1 ?_
      refine Or.inl ⟨by rw [y2]; exact y3, ?_⟩
      refine asAnd ?_
      rw [y2, y4]
      refine And.intro (fun c => ?_) (fun c => absurd c (by decide))
      refine go ok_X5_becomeFirst ?_
      refine And.intro y1 ?_
      refine And.intro y1 ?_
      refine And.intro y1 ?_
      refine And.intro y1 ?_
      refine And.intro y1 ?_
      refine And.intro y1 ?_
      exact q
    | succ n ih =>
      intro m r hm hr e
      have hh := ih (m + 1) (r.set m 1) (by omega) (by rw [List.length_set]; exact hr) (fun x hx => by
        rw [getD_set]
        by_cases z : x = m
        · rw [if_pos ⟨z, by omega⟩]
        · rw [if_neg (fun y => z y.1)]; exact e x (by omega))
      rw [← tI_tI h (a + 1) r, ← nI_1] at hh
      refine Ex.lay (fun hy => ?_)
      obtain ⟨y1, y2, y3, y4⟩ := ri_lets hy ha
      refine go ok_X5_becomeFirst ?_
      refine And.intro y1 ?_
      refine Or.inl ⟨by rw [y2]; exact y3, ?_⟩
      refine asAnd ?_
      rw [y2, y4, nI_leI (by omega) (by omega)]
      refine And.intro (fun c => ?_) (fun c => ?_)
      · omega
      · refine go ok_X5_becomeFirst ?_
        refine And.intro y1 ?_
        refine asAnd ?_
        rw [y2]
        refine And.intro ⟨y3, by rw [y4]; exact ix_of rfl (by omega) (by omega)⟩ ?_
        rw [nI_clamp (by omega)]
        have er : aI (tH (tI h (a + 1) r) i k p) (a + 1) = r := by show up1 (aI h) (a + 1) r (a + 1) = r; exact up1_eq
        rw [er]
        exact hh
  refine Con.of ok_X5_becomeFirst (nones := [none]) rfl (by simp) ?_
  refine Ex.lay (fun hy => ?_)
  refine go ok_X5_becomeFirst ?_
  have hh := lp 6 0 (aI h (a + 1)) (by omega) (ri_lets hy ha).2.2.2 (fun x hx => by omega)
  rw [tI_self] at hh
  exact hh
end C26

