/-! ===== the class: page ===== -/
/-- all but the list of pages -/
def RC0 (S : SG) (G : GH) (h : AH) : Prop :=
  STH h ∧ hI h 586 32 = gNw S ∧ hI h 587 32 = gFl S ∧ AL h 34 (gLa G) ∧ LKc (gD S) (gPa G) (gLa G) h ∧ PGc S (gPa G) (gLa G) h ∧
  (RTc (gRt S) (hR h 583 32) h ∧ ((hR h 583 32 = 54 ∧ hR h 584 32 = 56) ∨ (hR h 583 32 = 56 ∧ hR h 584 32 = 54))) ∧ (∀ k, k < 6 → (aI h 35).getD k 0 = klR (gDs S) (gD S) k (gD S).length) ∧ TXc (gTx S) h ∧ aL h 53 = gHs S ∧ AL h 39 (vwA (gLa G) (gWh S)) ∧ PMs (hR h 585 32) h ∧ OWc S G h
section C44
variable {l : Launch} {w : WD} {d : Nat} {h h' h1 h2 : AH} {Q : Option AV → AH → Prop} {S S' : SG} {G G' : GH} {b a : Nat} {L : List Nat}
theorem RC.gen0 (hc : RC S G h) (eC : ∀ n, ft h n → hC h' n = hC h n) (eI : ∀ f n, ft h n → ¬ hC h n = 3 → ¬ (f = 0 ∨ f = 2) → hI h' f n = hI h f n) (eL : ∀ f n, ft h n → ¬ hC h n = 3 → hL h' f n = hL h f n) (eR : ∀ f n, ft h n → ¬ hC h n = 3 → ¬ f = 1 → hR h' f n = hR h f n) (ea : ∀ n, ft h n → ¬ n = 35 → aI h' n = aI h n) (er : ∀ n, n < 32 → aR h' n = aR h n)
    (hy : Lay h) (e0 : gNw S' = gNw S) (e1 : gDs S' = gDs S) (e2 : gRt S' = gRt S) (e3 : gTx S' = gTx S) (e4 : gFl S' = gFl S) (e5 : gPr S' = gPr S) (g1 : gPa G' = gPa G) (g2 : G'.2.2.1 = G.2.2.1) (g3 : G'.2.2.2.2 = G.2.2.2.2)
    (a34 : AL h' 34 (gLa G')) (a39 : AL h' 39 (vwA (gLa G') (gWh S'))) (av : ∀ p, p < (gDs S).length → AL h' (hR h 194 (gN (gPa G) p)) (vwA (gLa G') (vws (gD S') p))) (lk : LKc (gD S') (gPa G) (gLa G') h') (kn : ∀ k, k < 6 → (aI h' 35).getD k 0 = klR (gDs S) (gD S') k (gD S').length) (hs : aL h' 53 = gHs S') (ow : ∀ b, isLs S G h b → hR h' 1 b = 1 ∨ G'.2.2.2.1 (hR h' 1 b) = b) : RC0 S' G' h' := by
  have f88 : ∀ {n}, n < 88 → ft h n := fun hn => Or.inl hn
  have fc : ∀ {n t}, hC h n = t + 1 → ft h n := fun hn => Or.inr (by omega)
  obtain ⟨a1, a2, a3, a4, a5, a6, a7, a8, a9, a10, a11, a12, a13, a14⟩ := hc
  have c32 := yc32 hy
  have c36 := yc36 hy
  have pmc : ∀ q, PMs q h → PMs q h' ∧ ∀ cs, PMc cs q h → PMc cs q h' := fun q hq => by
    obtain ⟨y1, ⟨y2, y3⟩, ⟨y4, y5⟩, ⟨y6, y7⟩⟩ := id hq
    have r0 := eR 320 q (fc y1) (by omega) (by omega)
    have r1 := eR 321 q (fc y1) (by omega) (by omega)
    have r2 := eR 322 q (fc y1) (by omega) (by omega)
    have s0 := ea (hR h 320 q) (fc y2) (fun z => by rw [z, yn35 hy] at y3; omega)
    have s1 := ea (hR h 321 q) (fc y4) (fun z => by rw [z, yn35 hy] at y5; omega)
    have s2 := ea (hR h 322 q) (fc y6) (fun z => by rw [z, yn35 hy] at y7; omega)
    have ms : PMs q h' := by
      unfold PMs
      rw [r0, r1, r2, s0, s1, s2, eC _ (fc y1), eC _ (fc y2), eC _ (fc y4), eC _ (fc y6)]
      exact hq
    refine ⟨ms, fun cs hcs => ⟨ms, ?_⟩⟩
    rw [r0, r1, r2, s0, s1, s2, eI 323 q (fc y1) (by omega) (by omega), eI 324 q (fc y1) (by omega) (by omega)]
    exact hcs.2
  have e194 : ∀ p, p < (gDs S).length → hR h' 194 (gN (gPa G) p) = hR h 194 (gN (gPa G) p) := fun p hp => by
    have z := (a7.2.2 p hp).1.1
    exact eR _ _ (fc z) (by omega) (by omega)
  have e195 : ∀ p, p < (gDs S).length → hR h' 195 (gN (gPa G) p) = hR h 195 (gN (gPa G) p) := fun p hp => by
    have z := (a7.2.2 p hp).1.1
    exact eR _ _ (fc z) (by omega) (by omega)
  have e585 : hR h' 585 32 = hR h 585 32 := eR _ _ (f88 (by omega)) (by omega) (by omega)
  have ipm : ∀ q, isPm S' G' h' q → isPm S G h q := by
    intro q hq
    rcases hq with z | ⟨p, hp, z⟩
    · exact Or.inl (by rw [z, e585])
    · rw [e1] at hp
      rw [g1, e195 p hp] at z
      exact Or.inr ⟨p, hp, z⟩
  have hq6 : ∀ q, isPm S G h q → hC h q = 6 := by
    intro q hq
    rcases hq with z | ⟨p, hp, z⟩
    · rw [z]; exact a13.1
    · rw [z]; exact (a7.2.2 p hp).2.2.2.2.1.1
  refine ⟨?_, ?_, ?_, a34, ?_, ⟨?_, ?_, ?_⟩, ⟨?_, ?_⟩, ?_, ?_, hs, a39, ?_, ?_⟩
  · obtain ⟨s1, s2, s3⟩ := a1
    refine ⟨by rw [eC 1 (f88 (by omega))]; exact s1, by rw [er 1 (by omega)]; exact s2, fun i hi => ?_⟩
    obtain ⟨t1, t2, t3, t4, t5⟩ := s3 i hi
    rw [eC _ (fc t1), eR 704 _ (fc t1) (by omega) (by omega), eI 705 _ (fc t1) (by omega) (by omega), eC _ (fc t4), ea _ (fc t4) (by omega)]
    exact ⟨t1, t2, t3, t4, t5⟩
  · rw [eI 586 32 (f88 (by omega)) (by omega) (by omega), e0]; exact a2
  · rw [eI 587 32 (f88 (by omega)) (by omega) (by omega), e4]; exact a3
  · rw [g1]; exact lk
  · rw [e1, g1]; exact a7.1
  · rw [e1]; exact a7.2.1
  · rw [e1, e5, g1]
    intro p hp
    obtain ⟨b1, b2, b3, b4, b5⟩ := a7.2.2 p hp
    have z := b1.1
    rw [eC _ (fc z), eI 192 _ (fc z) (by omega) (by omega), eI 193 _ (fc z) (by omega) (by omega), e194 p hp, e195 p hp]
    exact ⟨b1, b2, b3, av p hp, (pmc _ b5.1).2 _ b5⟩
  · rw [e2, eR 583 32 (f88 (by omega)) (by omega) (by omega)]
    have z := a8.1.1
    have z2 := a8.1.2.1
    refine a8.1.cg (eC _ (fc z)) (fun f hf => eI f _ (fc z) (by omega) (by omega)) (eL _ _ (fc z) (by omega)) (ea _ (f88 (by omega)) (by omega))
  · rw [eR 583 32 (f88 (by omega)) (by omega) (by omega), eR 584 32 (f88 (by omega)) (by omega) (by omega)]; exact a8.2
  · rw [e1]; exact kn
  · rw [e3]
    refine ⟨by rw [eI 449 36 (f88 (by omega)) (by omega) (by omega)]; exact a10.1, a10.2.1, by rw [ea 37 (f88 (by omega)) (by omega)]; exact a10.2.2⟩
  · rw [e585]; exact (pmc _ a13).1
  · refine ⟨fun p hp => ?_, fun b hb => ow b ?_, ⟨?_, fun p hp => ?_⟩, fun q hq j hj => ?_⟩
    · rw [e1] at hp
      rw [g1, g2, e194 p hp]; exact a14.1 p hp
    · rcases hb with z | z | z | ⟨p, hp, z⟩
      · exact Or.inl z
      · exact Or.inr (Or.inl z)
      · exact Or.inr (Or.inr (Or.inl z))
      · rw [e1] at hp
        rw [g1, e194 p hp] at z
        exact Or.inr (Or.inr (Or.inr ⟨p, hp, z⟩))
    · rw [g3, e585]; exact a14.2.2.1.1
    · rw [e1] at hp
      rw [g1, g3, e195 p hp]; exact a14.2.2.1.2 p hp
    · have hq' := ipm q hq
      have z := hq6 q hq'
      rw [g3, eR (320 + j) q (fc z) (by omega) (by omega)]
      exact a14.2.2.2 q hq' j hj
theorem AL.sm (hA : AL h b L) (ho : ∀ n, ¬ hC h n = 0 → n < hZ h) (sm : ∀ m, m < hZ h → SM h h' m) : AL h' b L := by
  obtain ⟨a1, a2, a3, a4, a5, a6, a7, a8⟩ := hA
  have s1 := sm b (ho b (by omega))
  have s2 := sm (hR h 1 b) (ho _ (by omega))
  unfold AL
  rw [s1.1, s1.2.1, s1.2.2.2.1, s2.1, s2.2.2.2.2.2.2]
  refine ⟨a1, a2, a3, a4, a5, a6, a7, fun r hr => ?_⟩
  rcases a8 r hr with z | z
  · exact Or.inl z
  · exact Or.inr ⟨z.1, by rw [(sm r (ho r (by omega))).1]; exact z.2⟩
theorem LKc.sm {D : List LK} {pa la : List Nat} (hA : LKc D pa la h) (ho : ∀ n, ¬ hC h n = 0 → n < hZ h) (sm : ∀ m, m < hZ h → SM h h' m) : LKc D pa la h' := by
  refine ⟨hA.1, fun k hk => ?_⟩
  have z := (hA.2 k hk).1.1
  have s := sm (gN la k) (ho _ (by omega))
  rw [s.1, s.2.1, s.2.1, s.2.1, s.2.1, s.2.1, s.2.2.1, s.2.2.2.1]
  exact hA.2 k hk
theorem RC.fz (hy : Lay h) (ho : ∀ n, ¬ hC h n = 0 → n < hZ h) {n : Nat} (hf : ft h n) : n < hZ h := by
  have := hy.1
  rcases hf with z | z
  · omega
  · exact ho n z
/-- cells are made that nothing tells of -/
theorem RC.ext (hc : RC S G h) (hy : Lay h) (ho : ∀ n, ¬ hC h n = 0 → n < hZ h) (sm : ∀ m, m < hZ h → SM h h' m) : RC S G h' := by
  have hz := hy.1
  have fz : ∀ {n}, ft h n → n < hZ h := fun hf => RC.fz hy ho hf
  have ls : ∀ c, isLs S G h c → c < hZ h := fun c hcl => by
    rcases hcl with z | z | z | ⟨p, hp, z⟩
    · omega
    · omega
    · omega
    · rw [z]; exact ho _ (by rw [(hc.pgs.2.2 p hp).2.2.2.1.1]; decide)
  exact hc.gen (fun n hf => (sm n (fz hf)).1) (fun f n hf _ _ => (sm n (fz hf)).2.1 f) (fun f n hf _ => (sm n (fz hf)).2.2.1 f) (fun f n hf _ _ => (sm n (fz hf)).2.2.2.1 f) (fun n hf _ => (sm n (fz hf)).2.2.2.2.1) (fun n hn => (sm n (by omega)).2.2.2.2.2.2) hy rfl rfl rfl rfl rfl rfl rfl rfl rfl
    (hc.pg.sm ho sm) (hc.lk.sm ho sm) (hc.wh.sm ho sm) (fun p hp => (hc.pgs.2.2 p hp).2.2.2.1.sm ho sm) (hc.lks.sm ho sm) (by rw [(sm 35 (by omega)).2.2.2.2.1]; exact hc.kn) (by rw [(sm 53 (by omega)).2.2.2.2.2.1]; exact hc.hs) (fun c hcl => by rw [(sm c (ls c hcl)).2.2.2.1]; exact hc.ow.2.1 c hcl)
end C44

