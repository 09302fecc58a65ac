/-! ===== the class: what a change leaves; go, feed, read ===== -/
theorem AL.cg {h h' : AH} {b : Nat} {L : List Nat} (hA : AL h b L) (e1 : hC h' = hC h) (e2 : hI h' 2 b = hI h 2 b) (e3 : hR h' 1 b = hR h 1 b) (e4 : aR h' = aR h) : AL h' b L := by
  unfold AL eOK at *
  rw [e1, e2, e3, e4]
  exact hA
theorem PMs.cg {h h' : AH} {q : Nat} (hA : PMs q h) (e1 : hC h' = hC h) (e3 : ∀ j, j < 3 → hR h' (320 + j) q = hR h (320 + j) q) (e4 : ∀ j, j < 3 → (aI h' (hR h (320 + j) q)).length = (aI h (hR h (320 + j) q)).length) : PMs q h' := by
  unfold PMs at *
  rw [e1, e3 0 (by decide), e3 1 (by decide), e3 2 (by decide), e4 0 (by decide), e4 1 (by decide), e4 2 (by decide)]
  exact hA
theorem PMc.cg {h h' : AH} {q : Nat} {cs : List CLS} (hA : PMc cs q h) (e1 : hC h' = hC h) (e2 : hI h' 323 q = hI h 323 q ∧ hI h' 324 q = hI h 324 q) (e3 : ∀ j, j < 3 → hR h' (320 + j) q = hR h (320 + j) q) (e4 : ∀ j, j < 3 → aI h' (hR h (320 + j) q) = aI h (hR h (320 + j) q)) : PMc cs q h' := by
  obtain ⟨a1, a2, a3, a4, a5⟩ := hA
  refine ⟨a1.cg e1 e3 (fun j hj => by rw [e4 j hj]), by rw [e2.1]; exact a2, a3, by rw [e2.2]; exact a4, ?_⟩
  rw [show hR h' 320 q = hR h 320 q from e3 0 (by decide), show hR h' 321 q = hR h 321 q from e3 1 (by decide), show hR h' 322 q = hR h 322 q from e3 2 (by decide), show aI h' (hR h 320 q) = aI h (hR h 320 q) from e4 0 (by decide), show aI h' (hR h 321 q) = aI h (hR h 321 q) from e4 1 (by decide), show aI h' (hR h 322 q) = aI h (hR h 322 q) from e4 2 (by decide)]
  exact a5
theorem STH.cg {h h' : AH} (hA : STH h) (e1 : ∀ x, x < 32 → hC h' x = hC h x) (e2 : ∀ x, x < 32 → hI h' 705 x = hI h 705 x) (e3 : ∀ x, x < 32 → hR h' 704 x = hR h 704 x) (e4 : ∀ x, x < 32 → aR h' x = aR h x) (e5 : ∀ x, x < 32 → aI h' x = aI h x) : STH h' := by
  obtain ⟨s1, s2, s3⟩ := hA
  refine ⟨by rw [e1 1 (by decide)]; exact s1, by rw [e4 1 (by decide)]; exact s2, fun i hi => ?_⟩
  rw [e1 _ (by omega), e3 _ (by omega), e2 _ (by omega), e1 _ (by omega), e5 _ (by omega)]
  exact s3 i hi
theorem LKc.cg {h h' : AH} {D : List LK} {pa la : List Nat} (hA : LKc D pa la h) (e1 : hC h' = hC h) (e2 : ∀ k x, k = 128 ∨ k = 130 ∨ k = 131 ∨ k = 132 ∨ k = 134 → hI h' k x = hI h k x) (e3 : ∀ x, hR h' 129 x = hR h 129 x) (e4 : ∀ x, hL h' 133 x = hL h 133 x) : LKc D pa la h' := by
  refine ⟨hA.1, fun l hl => ?_⟩
  rw [e1, e2 128 _ (by omega), e2 130 _ (by omega), e2 131 _ (by omega), e2 132 _ (by omega), e2 134 _ (by omega), e3, e4]
  exact hA.2 l hl
theorem OWc.cg {h h' : AH} {S S' : SG} {G : GH} (hA : OWc S G h) (eDs : gDs S' = gDs S) (e3 : ∀ f x, ¬ f = 583 → ¬ f = 584 → hR h' f x = hR h f x) : OWc S' G h' := by
  have e1 := fun x => e3 1 x (by decide) (by decide)
  have e194 := fun x => e3 194 x (by decide) (by decide)
  have e195 := fun x => e3 195 x (by decide) (by decide)
  have e585 := fun x => e3 585 x (by decide) (by decide)
  obtain ⟨a1, a2, a3, a4⟩ := hA
  unfold isLs isPm at *
  refine ⟨?_, ?_, ?_, ?_⟩
  · rw [eDs]; simp only [e194]; exact a1
  · unfold isLs; rw [eDs]; simp only [e194, e1]; exact a2
  · rw [eDs]; simp only [e195, e585]; exact a3
  · unfold isPm; rw [eDs]; simp only [e195, e585]
    intro q hq j hj
    rw [e3 _ _ (by omega) (by omega)]
    exact a4 q hq j hj
/-- pages, looks, lists and programs stay -/
theorem RC.cg {h h' : AH} {S S' : SG} {G : GH} (hc : RC S G h) (e1 : hC h' = hC h) (e2 : ∀ k x, k < 329 ∨ k = 705 → hI h' k x = hI h k x) (e3 : ∀ f x, ¬ f = 583 → ¬ f = 584 → hR h' f x = hR h f x) (e4 : ∀ x, hL h' 133 x = hL h 133 x) (e5 : aR h' = aR h) (e6 : ∀ x, x < 32 ∨ 88 ≤ x ∨ (59 ≤ x ∧ x ≤ 61) → aI h' x = aI h x) (eDs : gDs S' = gDs S) (eD : gD S' = gD S) (ePr : gPr S' = gPr S) (eWh : gWh S' = gWh S)
    (n1 : hI h' 586 32 = gNw S') (n2 : hI h' 587 32 = gFl S') (rt : RTc (gRt S') (hR h' 583 32) h' ∧ ((hR h' 583 32 = 54 ∧ hR h' 584 32 = 56) ∨ (hR h' 583 32 = 56 ∧ hR h' 584 32 = 54))) (kn : ∀ k, k < 6 → (aI h' 35).getD k 0 = klR (gDs S') (gD S') k (gD S').length) (tx : TXc (gTx S') h') (hs : aL h' 53 = gHs S') : RC S' G h' := by
  obtain ⟨a1, a2, a3, a4, a5, a6, a7, a8, a9, a10, a11, a12, a13, a14⟩ := hc
  have pr : ∀ q, isPm S G h q → (∀ j, j < 3 → hR h' (320 + j) q = hR h (320 + j) q) ∧ ∀ j, j < 3 → aI h' (hR h (320 + j) q) = aI h (hR h (320 + j) q) := fun q hq => ⟨fun j hj => e3 _ _ (by omega) (by omega), fun j hj => e6 _ (by have := (a14.2.2.2 q hq j hj).2; omega)⟩
  refine ⟨a1.cg (fun x _ => by rw [e1]) (fun x _ => e2 _ _ (by omega)) (fun x _ => e3 _ _ (by omega) (by omega)) (fun x _ => by rw [e5]) (fun x hx => e6 _ (Or.inl hx)), n1, n2, a4.cg e1 (e2 _ _ (by omega)) (e3 _ _ (by omega) (by omega)) e5, a5.cg e1 (e2 _ _ (by omega)) (e3 _ _ (by omega) (by omega)) e5, ?_, ⟨?_, ?_, ?_⟩, rt, kn, tx, hs, ?_, ?_, a14.cg eDs e3⟩
  · rw [eD]
    exact a6.cg e1 (fun k x hk => e2 _ _ (by omega)) (fun x => e3 _ _ (by omega) (by omega)) e4
  · rw [eDs]; exact a7.1
  · rw [eDs]; exact a7.2.1
  · rw [eDs, eD, ePr]
    intro p hp
    obtain ⟨b1, b2, b3, b4, b5⟩ := a7.2.2 p hp
    have hq := pr _ (Or.inr ⟨p, hp, rfl⟩)
    rw [e1, e2 192 _ (by omega), e2 193 _ (by omega), e3 194 _ (by omega) (by omega), e3 195 _ (by omega) (by omega)]
    exact ⟨b1, b2, b3, b4.cg e1 (e2 _ _ (by omega)) (e3 _ _ (by omega) (by omega)) e5, b5.cg e1 ⟨e2 _ _ (by omega), e2 _ _ (by omega)⟩ hq.1 hq.2⟩
  · rw [eWh]
    exact a12.cg e1 (e2 _ _ (by omega)) (e3 _ _ (by omega) (by omega)) e5
  · rw [e3 585 _ (by omega) (by omega)]
    have hq := pr _ (Or.inl rfl)
    exact a13.cg e1 hq.1 (fun j hj => by rw [hq.2 j hj])
section C33
variable {l : Launch} {w : WD} {d : Nat} {h h0 : AH} {Q : Option AV → AH → Prop} {S : SG} {G : GH} {tx : List Int32} {i j a : Nat} {k p : Int32}
theorem RTc.cg {h h' : AH} {r : RT} {a : Nat} (hA : RTc r a h) (e1 : hC h' a = hC h a) (e2 : ∀ f, 385 ≤ f ∧ f ≤ 389 → hI h' f a = hI h f a) (e3 : hL h' 390 a = hL h 390 a) (e4 : aI h' (a + 1) = aI h (a + 1)) : RTc r a h' := by
  unfold RTc at *
  rw [e1, e2 385 (by omega), e2 388 (by omega), e2 389 (by omega), e3, e4]
  exact hA
theorem RC.rt2 (hc : RC S G h) : (hR h 583 32 = 54 ∧ hR h 584 32 = 56) ∨ (hR h 583 32 = 56 ∧ hR h 584 32 = 54) := hc.2.2.2.2.2.2.2.1.2
theorem c_go (hc : RC S G h) {n : Int32} (q : ∀ h', RC (goF S n).2 G h' → OX h h' → Q (some (vi (goF S n).1)) h') : Con l w true d HX8_go [vr 32, vi n] h 0 0 Q := by
  refine Con.of ok_X8_go (nones := []) rfl (by simp) ?_
  have k9 : ¬ (0 ≤ n ∧ n ≤ 500) → Ex l w true mX8_go d Q 11 [some (vr 32), some (vi n)] [] h 0 0 := by
    intro c
    rw [goF, if_neg c] at q
    refine go ok_X8_go ?_
    exact q _ hc (OX.rf h)
  refine go ok_X8_go ?_
  refine And.intro (fun c => ?_) (fun c => ?_)
  · exact k9 (fun z => absurd z.1 (by simpa using c))
  · refine go ok_X8_go ?_
    refine And.intro (fun c2 => ?_) (fun c2 => ?_)
    · have c3 : 0 ≤ n ∧ n ≤ 500 := ⟨by simpa using c, c2⟩
      rw [goF, if_pos c3] at q
      refine go ok_X8_go ?_
      refine asAnd ?_
      rw [hc.now]
      refine And.intro (fun c4 => ?_) (fun c4 => ?_)
      · rw [if_pos c4] at q
        refine go ok_X8_go ?_
        show Q (some (vi (hI h 586 32 + n))) (sI h 586 32 (hI h 586 32 + n))
        rw [hc.now]
        refine q (sI h 586 32 (gNw S + n)) ?_ (OX.si (by decide))
        exact hc.cg rfl (fun k x hk => by rw [hI_sI, if_neg (fun z => by omega)]) (fun _ _ _ _ => rfl) (fun _ => rfl) rfl (fun _ _ => rfl) rfl rfl rfl rfl rfl hc.2.2.1 ⟨hc.rt.cg rfl (fun f hf => by rw [hI_sI, if_neg (fun z => by omega)]) rfl rfl, hc.rt2⟩ hc.kn hc.tx hc.hs
      · rw [if_neg c4] at q
        refine go ok_X8_go ?_
        exact q _ hc (OX.rf h)
    · exact k9 (fun z => absurd z.2 (by simpa using c2))
end C33

