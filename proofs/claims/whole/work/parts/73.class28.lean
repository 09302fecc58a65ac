/-! ===== the class: a clause of rights ===== -/
section C28
variable {l : Launch} {w : WD} {d : Nat} {h h0 : AH} {Q : Option AV → AH → Prop} {tx : List Int32} {i j a : Nat} {k p : Int32} {R : NR}
theorem c_tellOnce (ha : a = 54 ∨ a = 56) {m : Nat} (hm : m < 3) {c pl : Int32} (hc : c = 1 <<< (nI m &&& 31)) (q1 : bt (hI h 387 a) m = false → Q none (tH (sI h 387 a (hI h 387 a ||| c)) i 0 p)) (q2 : bt (hI h 387 a) m = true → Q none (tH (sI h 387 a (hI h 387 a ||| c)) i 3 pl)) : Con l w true (d + 1) HX5_tellOnce [vr a, vi c, vi pl, vr 36] (tH h i 0 p) 0 0 Q := by
  have k15 : ∀ k2 p2, Q none (tH (sI h 387 a (hI h 387 a ||| c)) i k2 p2) → Ex l w true mX5_tellOnce (d + 1) Q 15 [some (vr a), some (vi c), some (vi pl), some (vr 36)] [] (tH h i k2 p2) 0 0 := by
    intro k2 p2 q
    rw [← tH_s (by decide)] at q
    refine Ex.lay (fun hy => ?_)
    have y1 := (ri_lets hy ha).1
    refine go ok_X5_tellOnce ?_
    refine And.intro y1 ?_
    refine And.intro y1 ?_
    exact q
  refine Con.of ok_X5_tellOnce (nones := []) rfl (by simp) ?_
  refine Ex.lay (fun hy => ?_)
  have y1 := (ri_lets hy ha).1
  refine go ok_X5_tellOnce ?_
  refine And.intro y1 ?_
  refine asAnd ?_
  rw [show hI (tH h i 0 p) 387 a = hI h 387 a from rfl]
  have e := b_has (x := hI h 387 a) (k := m) (by omega)
  rw [← hc] at e
  rw [e]
  refine And.intro (fun c2 => ?_) (fun c2 => ?_)
  · exact k15 _ _ (q1 c2)
  · refine go ok_X5_tellOnce ?_
    refine Cal.z (c_fail (fun _ => ?_) (fun z => absurd rfl z))
    exact k15 _ _ (q2 (by simpa using c2))
theorem tdOn_e (t : Nat → Bool) (k : Nat) : tdOn t k k = true := if_pos rfl
theorem tdOn_n {t : Nat → Bool} {k j : Nat} (h : ¬ j = k) : tdOn t k j = t j := if_neg h
theorem NRc.let' (hN : NRc R a h) (hl : (aI h (a + 1)).length = 6) {m : Nat} (hm : m < 6) {v : Int32} : NRc ((R.1.1, R.1.2.1.set m v, R.1.2.2), tdOn R.2 (6 + m)) a (tI (sI h 386 a (hI h 386 a ||| (1 <<< (nI m &&& 31)))) (a + 1) ((aI h (a + 1)).set m v)) := by
  obtain ⟨⟨n1, n2⟩, n3, n4, n5, n6, n7⟩ := hN
  refine ⟨⟨n1, ?_⟩, fun k hk => ⟨?_, ?_, ?_⟩, fun k hk => ?_, ?_, ?_, ?_⟩
  · show _ = R.1.2.1.set m v
    rw [aI_tI, if_pos rfl, n2]
  · show _ = tdOn R.2 (6 + m) k
    rw [hI_tI, hI_sI, if_neg (by omega), tdOn_n (by omega)]
    exact (n3 k hk).1
  · show tdOn R.2 (6 + m) k = _
    rw [tdOn_n (by omega)]
    exact (n3 k hk).2.1
  · show _ = tdOn R.2 (6 + m) (6 + k)
    rw [hI_tI, hI_sI, if_pos ⟨rfl, rfl⟩, b_put (by omega) (by omega), (n3 k hk).2.2]
    by_cases c : k = m
    · rw [c, tdOn_e, decide_eq_true rfl, Bool.or_true]
    · rw [tdOn_n (by omega), decide_eq_false c, Bool.or_false]
  · show _ = tdOn R.2 (6 + m) (12 + k)
    rw [hI_tI, hI_sI, if_neg (by omega), n4 k hk, tdOn_n (by omega)]
  · rw [hI_tI, hI_sI, if_neg (by omega)]; exact n5
  · rw [hI_tI, hI_sI, if_neg (by omega)]; exact n6
  · rw [hL_tI, hL_sI]; exact n7
theorem c_readLet (hS : STH h0) (hT : TXc tx h0) (ha : a = 54 ∨ a = 56) (b : RB a h0 h) (hN : NRc R a h) (hi : i ≤ tx.length)
    (q1 : ∀ h' j R', pLet tx R i = .inr (j, R') → RB a h0 h' → NRc R' a h' → j ≤ tx.length → Q none (tH h' j 0 p))
    (q2 : ∀ h' e pl i2, pLet tx R i = .inl (e, pl) → ¬ e = 0 → RB a h0 h' → i2 ≤ tx.length → Q none (tH h' i2 e pl)) : Con l w true (d + 7) HX5_readLet [vr a, vr 36] (tH h i 0 p) 0 0 Q := by
  have hTh := b.txt ha hT
  have hSh := b.st ha hS
  refine Con.of ok_X5_readLet (nones := [none, none, none]) rfl (by simp) ?_
  refine Ex.lay (fun hy => ?_)
  obtain ⟨y1, -, -, y4⟩ := ri_lets hy ha
  replace y4 : (aI h (a + 1)).length = 6 := y4
  -- behind the door
  have rest : ∀ (m i2 : Nat) (k2 p2 : Int32), m < 6 → i2 ≤ tx.length →
      (∀ j2 j3 v, k2 = 0 → pWord tx wEach i2 = .inr (j2, ()) → pNum tx 1 99 j2 = .inr (j3, v) → j3 ≤ tx.length → Q none (tH (tI (sI h 386 a (hI h 386 a ||| (1 <<< (nI m &&& 31)))) (a + 1) ((aI h (a + 1)).set m v)) j3 0 p2)) →
      (∀ e pl i3 v, k2 = 0 → pBd (pWord tx wEach i2) (fun j2 _ => pNum tx 1 99 j2) = .inl (e, pl) → ¬ e = 0 → i3 ≤ tx.length → Q none (tH (tI (sI h 386 a (hI h 386 a ||| (1 <<< (nI m &&& 31)))) (a + 1) ((aI h (a + 1)).set m v)) i3 e pl)) →
      (∀ i3 v, ¬ k2 = 0 → i3 ≤ tx.length → Q none (tH (tI (sI h 386 a (hI h 386 a ||| (1 <<< (nI m &&& 31)))) (a + 1) ((aI h (a + 1)).set m v)) i3 k2 p2)) →
      Ex l w true mX5_readLet (d + 7) Q 8 [some (vr a), some (vr 36), none, none, none] [vi (1 <<< (nI m &&& 31))] (tH h i2 k2 p2) 0 0 := by
    intro m i2 k2 p2 hm hi2 qa qb qc
    have e6 : ∀ i k p, sI (tH h i k p) 386 a (hI h 386 a ||| (1 <<< (nI m &&& 31))) = tH (sI h 386 a (hI h 386 a ||| (1 <<< (nI m &&& 31)))) i k p := fun i k p => tH_s (by decide)
    have b1 : RB a h0 (sI h 386 a (hI h 386 a ||| (1 <<< (nI m &&& 31)))) := b.s (by decide)
    have hT1 := b1.txt ha hT
    have hS1 := b1.st ha hS
    refine go ok_X5_readLet ?_
    refine And.intro y1 ?_
    refine And.intro y1 ?_
    refine asCal ?_
    rw [show hI (tH h i2 k2 p2) 386 a = hI h 386 a from rfl, e6]
    rw [show aI h (a + 1) = aI (sI h 386 a (hI h 386 a ||| (1 <<< (nI m &&& 31)))) (a + 1) from rfl] at qa qb qc
    generalize sI h 386 a (hI h 386 a ||| (1 <<< (nI m &&& 31))) = h1 at *
    refine Cal.z (c_takeWord hS1 hT1 hi2 (n := 2) (by decide) (fun j k0 e hl => ?_) (fun e pl i3 k0 e2 he hl => ?_) (fun i3 k0 hl => ?_))
    · refine go ok_X5_readLet ?_
      refine Cal.z (c_takeNumber hT1 hl (fun j3 v _ e3 hl3 => ?_) (fun e4 pl _ e5 he => ?_) (fun z => absurd rfl z))
      · refine go ok_X5_readLet ?_
        exact let_lp ha hm (qa j j3 v k0 e e3 hl3)
      · refine go ok_X5_readLet ?_
        exact let_lp ha hm (qb e4 pl _ 1 k0 (by rw [show pWord tx wEach i2 = .inr (j, ()) from e]; exact e5) he (skp_le hl))
    · refine go ok_X5_readLet ?_
      refine Cal.z (c_takeNumber hT1 hl (fun j3 v z => absurd z he) (fun e4 pl z => absurd z he) (fun _ => ?_))
      refine go ok_X5_readLet ?_
      exact let_lp ha hm (qb e pl _ 1 k0 (by rw [show pWord tx wEach i2 = .inl (e, pl) from e2]; rfl) he (skp_le hl))
    · refine go ok_X5_readLet ?_
      refine Cal.z (c_takeNumber hT1 hl (fun j3 v z => absurd z k0) (fun e4 pl z => absurd z k0) (fun _ => ?_))
      refine go ok_X5_readLet ?_
      exact let_lp ha hm (qc _ 1 k0 (skp_le hl))
  refine go ok_X5_readLet ?_
  refine And.intro y1 ?_
  refine Cal.z (c_readDoor hTh hi (fun j m e hm hl ht => ?_) (fun j m e hm hl ht => ?_) (fun e pl i2 m e2 he hl hm => ?_))
  · have ht2 : R.2 (6 + m) = false := by rw [← (hN.2.1 m hm).2.2]; exact ht
    refine rest m j 0 p hm hl (fun j2 j3 v _ x1 x2 x3 => ?_) (fun e4 pl i3 v _ x1 x2 x3 => ?_) (fun _ _ z => absurd rfl z)
    · exact q1 _ j3 _ (by unfold pLet; rw [e, pBd, nI_clamp (by omega), if_neg (by rw [ht2]; decide), x1, pBd, x2]; rfl) (b.s (by decide)).t (hN.let' y4 hm) x3
    · refine q2 _ e4 pl i3 ?_ x2 (b.s (by decide)).t x3
      unfold pLet
      rw [e, pBd, nI_clamp (by omega), if_neg (by rw [ht2]; decide)]
      cases x5 : pWord tx wEach j with
      | inl z =>
        rw [x5] at x1
        injection (show (Sum.inl z : PR Int32) = _ from x1) with x6
        rw [x6]
        rfl
      | inr z =>
        rw [x5] at x1
        show pBd (pNum tx 1 99 z.1) _ = _
        rw [show pNum tx 1 99 z.1 = .inl (e4, pl) from x1]
        rfl
  · have ht2 : R.2 (6 + m) = true := by rw [← (hN.2.1 m hm).2.2]; exact ht
    refine rest m j 3 _ hm hl (fun j2 j3 v z => absurd z (by decide)) (fun e4 pl i3 v z => absurd z (by decide)) (fun i3 v _ x3 => ?_)
    exact q2 _ 3 _ i3 (by unfold pLet; rw [e, pBd, nI_clamp (by omega), if_pos ht2]) (by decide) (b.s (by decide)).t x3
  · refine rest m i2 e pl hm hl (fun j2 j3 v z => absurd z he) (fun e4 pl i3 v z => absurd z he) (fun i3 v _ x3 => ?_)
    exact q2 _ e pl i3 (by unfold pLet; rw [e2]; rfl) he (b.s (by decide)).t x3
end C28

