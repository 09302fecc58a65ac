/-! ===== frames between the sides; the script's cell ===== -/
section FR
variable {l : Launch} {w : WD} {lm : Bool} {X : MD} {d : Nat} {h h' : AH} {Q : Option AV → AH → Prop} {S S' : SG} {G : GH} {pc : Nat} {ll : List (Option AV)} {st : List AV} {bc bs : Nat}
theorem OWc.om (hA : OWc S G h) (e3 : ∀ f x, f < 640 → hR h' f x = hR h f x) : OWc S G h' := by
  have e1 := fun x => e3 1 x (by decide)
  have e194 := fun x => e3 194 x (by decide)
  have e195 := fun x => e3 195 x (by decide)
  have e585 := fun x => e3 585 x (by decide)
  obtain ⟨a1, a2, a3, a4⟩ := hA
  unfold isLs isPm at *
  refine ⟨?_, ?_, ?_, ?_⟩
  · simp only [e194]; exact a1
  · unfold isLs; simp only [e194, e1]; exact a2
  · simp only [e195, e585]; exact a3
  · unfold isPm; simp only [e195, e585]
    intro q hq j hj
    rw [e3 _ _ (by omega)]
    exact a4 q hq j hj
theorem RC.om (hc : RC S G h) (ho : OM h h') (hs : STH h') : RC S G h' := by
  have e1 : hC h' = hC h := funext ho.1
  have e2 : ∀ f x, f < 640 → hI h' f x = hI h f x := fun f x hf => (ho.2.1 f x hf).1
  have e4 : ∀ f x, f < 640 → hL h' f x = hL h f x := fun f x hf => (ho.2.1 f x hf).2.1
  have e3 : ∀ f x, f < 640 → hR h' f x = hR h f x := fun f x hf => (ho.2.1 f x hf).2.2
  have e5 : aR h' = aR h := funext ho.2.2.2.1
  have e6 : ∀ x, x < 63 ∨ 88 ≤ x → aI h' x = aI h x := fun x hx => (ho.2.2.1 x hx).1
  have e7 : ∀ x, x < 63 ∨ 88 ≤ x → aL h' x = aL h x := fun x hx => (ho.2.2.1 x hx).2
  obtain ⟨a1, a2, a3, a4, a5, a6, a7, a8, a9, a10, a11, a12, a13, a14⟩ := hc
  have pr : ∀ q, isPm S G h q → (∀ j, j < 3 → hR h' (320 + j) q = hR h (320 + j) q) ∧ ∀ j, j < 3 → aI h' (hR h (320 + j) q) = aI h (hR h (320 + j) q) := fun q hq => ⟨fun j hj => e3 _ _ (by omega), fun j hj => e6 _ (by have := (a14.2.2.2 q hq j hj).2; omega)⟩
  have r1 : hR h' 583 32 = hR h 583 32 := e3 _ _ (by decide)
  have r2 : hR h' 584 32 = hR h 584 32 := e3 _ _ (by decide)
  refine ⟨hs, by rw [e2 586 32 (by decide)]; exact a2, by rw [e2 587 32 (by decide)]; exact a3, a4.cg e1 (e2 _ _ (by decide)) (e3 _ _ (by decide)) e5, a5.cg e1 (e2 _ _ (by decide)) (e3 _ _ (by decide)) e5, a6.cg e1 (fun k x hk => e2 _ _ (by omega)) (fun x => e3 _ _ (by decide)) (fun x => e4 _ _ (by decide)), ⟨a7.1, a7.2.1, fun p hp => ?_⟩, ⟨?_, ?_⟩, ?_, ?_, ?_, a12.cg e1 (e2 _ _ (by decide)) (e3 _ _ (by decide)) e5, ?_, a14.om e3⟩
  · obtain ⟨b1, b2, b3, b4, b5⟩ := a7.2.2 p hp
    have hq := pr _ (Or.inr ⟨p, hp, rfl⟩)
    rw [e1, e2 192 _ (by decide), e2 193 _ (by decide), e3 194 _ (by decide), e3 195 _ (by decide)]
    exact ⟨b1, b2, b3, b4.cg e1 (e2 _ _ (by decide)) (e3 _ _ (by decide)) e5, b5.cg e1 ⟨e2 _ _ (by decide), e2 _ _ (by decide)⟩ hq.1 hq.2⟩
  · rw [r1]
    have z := a8.1.2.1
    exact a8.1.cg (by rw [e1]) (fun f hf => e2 _ _ (by omega)) (e4 _ _ (by decide)) (e6 _ (by omega))
  · rw [r1, r2]; exact a8.2
  · rw [e6 35 (by decide)]; exact a9
  · refine ⟨by rw [e2 449 36 (by decide)]; exact a10.1, a10.2.1, by rw [e6 37 (by decide)]; exact a10.2.2⟩
  · rw [e7 53 (by decide)]; exact a11
  · rw [e3 585 _ (by decide)]
    have hq := pr _ (Or.inl rfl)
    exact a13.cg e1 hq.1 (fun j hj => by rw [hq.2 j hj])
/-- what was there before is told by the machine's heap -/
theorem Sim.sth {H : Heap} (hS : Sim w lm h H) (h1 : hC h 1 = 104) (h2 : ∀ i, i < 11 → hC h (2 + i) = 12 ∧ hC h (13 + i) = 105) : STH h := by
  have g : ∀ n, n < 32 → hC h n ≠ 0 → xOK w h n := fun n hn hz => by
    rcases hS.2.2.1 n hz with z | z
    · omega
    · exact z.2
  refine ⟨h1, ?_, fun i hi => ?_⟩
  · rcases g 1 (by decide) (by rw [h1]; decide) with z | z | z | z
    · omega
    · exact z.2.2
    · omega
    · omega
  · have k1 := g (2 + i) (by omega) (by rw [(h2 i hi).1]; decide)
    have k2 := g (13 + i) (by omega) (by rw [(h2 i hi).2]; decide)
    have e1 : hR h 704 (2 + i) = 13 + i ∧ hI h 705 (2 + i) = 0 := by
      rcases k1 with z | z | z | z
      · omega
      · omega
      · exact ⟨by rw [z.2.2.2.1]; omega, z.2.2.2.2⟩
      · omega
    have e2 : aI h (13 + i) = sBytes.getD i [] := by
      rcases k2 with z | z | z | z
      · omega
      · omega
      · omega
      · rw [z.2.2.2, show 13 + i - 13 = i by omega]
    exact ⟨(h2 i hi).1, e1.1, e1.2, (h2 i hi).2, e2⟩
theorem Ex.om (hc : RC S G h) (ho : OM h h') (k : RC S G h' → Ex l w lm X d Q pc ll st h' bc bs) : Ex l w lm X d Q pc ll st h' bc bs := by
  intro p e R s m args below meth c H locs cells slots ls hCx hf hl hcl0 hsl0 hS hL hlen hva
  refine k (hc.om ho (hS.sth ?_ (fun i hi => ?_))) p e R s m args below meth c H locs cells slots ls hCx hf hl hcl0 hsl0 hS hL hlen hva
  · rw [ho.1]; exact hc.1.1
  · rw [ho.1, ho.1]; exact ⟨(hc.1.2.2 i hi).1, (hc.1.2.2 i hi).2.2.2.1⟩
/-- the script's cell told again -/
def fxH (w : WD) (h : AH) : AH := (up1 (hC h) 26 106, hI h, hL h, hR h, up1 (aI h) 26 (wS w), aL h, aR h, hZ h)
theorem fx_26 : hC (fxH w h) 26 = 106 := by show up1 (hC h) 26 106 26 = 106; exact up1_eq
theorem fx_s : aI (fxH w h) 26 = wS w := by show up1 (aI h) 26 (wS w) 26 = wS w; exact up1_eq
theorem fx_C {n : Nat} (hn : ¬ n = 26) : hC (fxH w h) n = hC h n := up1_ne hn
theorem fx_a {n : Nat} (hn : ¬ n = 26) : aI (fxH w h) n = aI h n := up1_ne hn
theorem fx_c (h26 : hC h 26 = 0) {n t : Nat} (hn : hC h n = t + 1) : hC (fxH w h) n = t + 1 := by
  rw [fx_C (fun z => by rw [z, h26] at hn; omega)]; exact hn
theorem fx_r (h26 : hC h 26 = 0) {n t : Nat} (hn : hC h n = t + 1) : aI (fxH w h) n = aI h n := fx_a (fun z => by rw [z, h26] at hn; omega)
theorem AL.fx (h26 : hC h 26 = 0) {b : Nat} {L : List Nat} (hA : AL h b L) : AL (fxH w h) b L := by
  obtain ⟨a1, a2, a3, a4, a5, a6, a7, a8⟩ := hA
  refine ⟨fx_c h26 a1, a2, fx_c h26 a3, a4, a5, a6, a7, fun r hr => ?_⟩
  rcases a8 r hr with z | ⟨z1, z2 | z2⟩
  · exact Or.inl z
  · exact Or.inr ⟨z1, Or.inl (fx_c h26 z2)⟩
  · exact Or.inr ⟨z1, Or.inr (fx_c h26 z2)⟩
theorem PMs.fx (h26 : hC h 26 = 0) {q : Nat} (hA : PMs q h) : PMs q (fxH w h) := by
  obtain ⟨y1, ⟨y2, y3⟩, ⟨y4, y5⟩, ⟨y6, y7⟩⟩ := hA
  exact ⟨fx_c h26 y1, ⟨fx_c h26 y2, by rw [show aI (fxH w h) (hR (fxH w h) 320 q) = _ from fx_r h26 y2]; exact y3⟩, ⟨fx_c h26 y4, by rw [show aI (fxH w h) (hR (fxH w h) 321 q) = _ from fx_r h26 y4]; exact y5⟩, ⟨fx_c h26 y6, by rw [show aI (fxH w h) (hR (fxH w h) 322 q) = _ from fx_r h26 y6]; exact y7⟩⟩
theorem PMc.fx (h26 : hC h 26 = 0) {q : Nat} {cs : List CLS} (hA : PMc cs q h) : PMc cs q (fxH w h) := by
  obtain ⟨a1, a2, a3, a4, a5⟩ := hA
  refine ⟨a1.fx h26, a2, a3, a4, fun k hk => ?_⟩
  rw [show aI (fxH w h) (hR (fxH w h) 320 q) = _ from fx_r h26 a1.2.1.1, show aI (fxH w h) (hR (fxH w h) 321 q) = _ from fx_r h26 a1.2.2.1.1, show aI (fxH w h) (hR (fxH w h) 322 q) = _ from fx_r h26 a1.2.2.2.1]
  exact a5 k hk
theorem RC.fx (h26 : hC h 26 = 0) (hc : RC S G h) : RC S G (fxH w h) := by
  obtain ⟨a1, a2, a3, a4, a5, a6, a7, a8, a9, a10, a11, a12, a13, a14⟩ := hc
  refine ⟨⟨fx_c h26 a1.1, a1.2.1, fun i hi => ?_⟩, a2, a3, a4.fx h26, a5.fx h26, ⟨a6.1, fun k hk => ?_⟩, ⟨a7.1, a7.2.1, fun p hp => ?_⟩, ⟨⟨fx_c h26 a8.1.1, a8.1.2.1, ?_, a8.1.2.2.2⟩, a8.2⟩, ?_, ⟨a10.1, a10.2.1, ?_⟩, a11, a12.fx h26, a13.fx h26, a14⟩
  · obtain ⟨t1, t2, t3, t4, t5⟩ := a1.2.2 i hi
    exact ⟨fx_c h26 t1, t2, t3, fx_c h26 t4, (fx_r h26 t4).trans t5⟩
  · obtain ⟨⟨t1, t2⟩, t3⟩ := a6.2 k hk
    exact ⟨⟨fx_c h26 t1, t2⟩, t3⟩
  · obtain ⟨⟨t1, t2⟩, b2, b3, b4, b5⟩ := a7.2.2 p hp
    exact ⟨⟨fx_c h26 t1, t2⟩, b2, b3, b4.fx h26, b5.fx h26⟩
  · have z := a8.1.2.1
    exact (fx_a (by show ¬ hR h 583 32 + 1 = 26; omega)).trans a8.1.2.2.1
  · rw [fx_a (by decide)]; exact a9
  · rw [fx_a (by decide)]; exact a10.2.2
theorem Lay.fx (hy : Lay h) : Lay (fxH w h) := by
  obtain ⟨y1, y2, y3, y4, y5⟩ := hy
  refine ⟨y1, fun q hq => ?_, y3, fun q hq => ?_, y5⟩
  · rw [fx_C ((by decide : ∀ q ∈ layC, ¬ q.1 = 26) q hq)]; exact y2 q hq
  · rw [fx_a ((by decide : ∀ q ∈ layI, ¬ q.1 = 26) q hq)]; exact y4 q hq
theorem RM.fx (hM : RM S h) : RM S (fxH w h) := hM.ox ⟨fun _ _ => ⟨rfl, rfl⟩, fun a h1 _ => ⟨fx_a (by omega), rfl⟩⟩
theorem Sim.fx {H : Heap} (hS : Sim w lm h H) : Sim w lm (fxH w h) H := by
  refine ⟨hS.1, hS.2.1, fun n hn => ?_, fun z => (hS.2.2.2 z).fx⟩
  by_cases c : n = 26
  · subst c
    exact Or.inr ⟨by decide, Or.inl ⟨rfl, fx_26, fx_s⟩⟩
  · rw [fx_C c] at hn
    rcases hS.2.2.1 n hn with z | z
    · refine Or.inl ⟨z.1, z.2.1, ?_⟩
      have := z.2.2
      unfold cOK at this ⊢
      rw [fx_C c, fx_a c]
      exact this
    · refine Or.inr ⟨z.1, ?_⟩
      have := z.2
      unfold xOK at this ⊢
      rw [fx_C c, fx_a c]
      exact this
theorem Ex.scr (hc : RC S' G h) (hM : RM S h) (k : ∀ h1, RC S' G h1 → RM S h1 → hC h1 26 = 106 → aI h1 26 = wS w → Ex l w lm X d Q pc ll st h1 bc bs) : Ex l w lm X d Q pc ll st h bc bs := by
  intro p e R s m args below meth c H locs cells slots ls hCx hf hl hcl0 hsl0 hS hL hlen hva
  by_cases h26 : hC h 26 = 0
  · exact k (fxH w h) (hc.fx h26) hM.fx fx_26 fx_s p e R s m args below meth c H locs cells slots ls hCx hf hl hcl0 hsl0 hS.fx hL hlen hva
  · have x : xOK w h 26 := by
      rcases hS.2.2.1 26 h26 with z | z
      · omega
      · exact z.2
    rcases x with z | z | z | z
    · exact k h hc hM z.2.1 z.2.2 p e R s m args below meth c H locs cells slots ls hCx hf hl hcl0 hsl0 hS hL hlen hva
    · omega
    · omega
    · omega
theorem Ex.mono {bc2 bs2 : Nat} (h1 : bc ≤ bc2) (h2 : bs ≤ bs2) (k : Ex l w lm X d Q pc ll st h bc bs) : Ex l w lm X d Q pc ll st h bc2 bs2 := by
  intro p e R s m args below meth c H locs cells slots ls hCx hf hl hcl0 hsl0 hS hL hlen hva
  exact k p e R s m args below meth c H locs cells slots ls hCx hf hl (by omega) (by omega) hS hL hlen hva
end FR

