/-! ===== the class: looks and lists change; wipe, part ===== -/
section C40
variable {l : Launch} {w : WD} {d : Nat} {h h' : AH} {Q : Option AV → AH → Prop} {S S' : SG} {G G' : GH}
/-- a cell that the state is told by -/
def ft (h : AH) (n : Nat) : Prop := n < 88 ∨ ¬ hC h n = 0
theorem RC.gen (hc : RC S G h) (eC : ∀ n, ft h n → hC h' n = hC h n) (eI : ∀ f n, ft h n → ¬ hC h n = 3 → ¬ (f = 0 ∨ f = 2) → hI h' f n = hI h f n) (eL : ∀ f n, ft h n → ¬ hC h n = 3 → hL h' f n = hL h f n) (eR : ∀ f n, ft h n → ¬ hC h n = 3 → ¬ f = 1 → hR h' f n = hR h f n) (ea : ∀ n, ft h n → ¬ n = 35 → aI h' n = aI h n) (er : ∀ n, n < 32 → aR h' n = aR h n)
    (hy : Lay h) (e0 : gNw S' = gNw S) (e1 : gDs S' = gDs S) (e2 : gRt S' = gRt S) (e3 : gTx S' = gTx S) (e4 : gFl S' = gFl S) (e5 : gPr S' = gPr S) (g1 : gPa G' = gPa G) (g2 : G'.2.2.1 = G.2.2.1) (g3 : G'.2.2.2.2 = G.2.2.2.2)
    (a33 : AL h' 33 (gPa G)) (a34 : AL h' 34 (gLa G')) (a39 : AL h' 39 (vwA (gLa G') (gWh S'))) (av : ∀ p, p < (gDs S).length → AL h' (hR h 194 (gN (gPa G) p)) (vwA (gLa G') (vws (gD S') p))) (lk : LKc (gD S') (gPa G) (gLa G') h') (kn : ∀ k, k < 6 → (aI h' 35).getD k 0 = klR (gDs S) (gD S') k (gD S').length) (hs : aL h' 53 = gHs S') (ow : ∀ b, isLs S G h b → hR h' 1 b = 1 ∨ G'.2.2.2.1 (hR h' 1 b) = b) : RC S' G' h' := by
  have f88 : ∀ {n}, n < 88 → ft h n := fun hn => Or.inl hn
  have fc : ∀ {n t}, hC h n = t + 1 → ft h n := fun hn => Or.inr (by omega)
  obtain ⟨a1, a2, a3, a4, a5, a6, a7, a8, a9, a10, a11, a12, a13, a14⟩ := hc
  have c32 := yc32 hy
  have c36 := yc36 hy
  have pmc : ∀ q, PMs q h → PMs q h' ∧ ∀ cs, PMc cs q h → PMc cs q h' := fun q hq => by
    obtain ⟨y1, ⟨y2, y3⟩, ⟨y4, y5⟩, ⟨y6, y7⟩⟩ := id hq
    have r0 := eR 320 q (fc y1) (by omega) (by omega)
    have r1 := eR 321 q (fc y1) (by omega) (by omega)
    have r2 := eR 322 q (fc y1) (by omega) (by omega)
    have s0 := ea (hR h 320 q) (fc y2) (fun z => by rw [z, yn35 hy] at y3; omega)
    have s1 := ea (hR h 321 q) (fc y4) (fun z => by rw [z, yn35 hy] at y5; omega)
    have s2 := ea (hR h 322 q) (fc y6) (fun z => by rw [z, yn35 hy] at y7; omega)
    have ms : PMs q h' := by
      unfold PMs
      rw [r0, r1, r2, s0, s1, s2, eC _ (fc y1), eC _ (fc y2), eC _ (fc y4), eC _ (fc y6)]
      exact hq
    refine ⟨ms, fun cs hcs => ⟨ms, ?_⟩⟩
    rw [r0, r1, r2, s0, s1, s2, eI 323 q (fc y1) (by omega) (by omega), eI 324 q (fc y1) (by omega) (by omega)]
    exact hcs.2
  have e194 : ∀ p, p < (gDs S).length → hR h' 194 (gN (gPa G) p) = hR h 194 (gN (gPa G) p) := fun p hp => by
    have z := (a7.2.2 p hp).1.1
    exact eR _ _ (fc z) (by omega) (by omega)
  have e195 : ∀ p, p < (gDs S).length → hR h' 195 (gN (gPa G) p) = hR h 195 (gN (gPa G) p) := fun p hp => by
    have z := (a7.2.2 p hp).1.1
    exact eR _ _ (fc z) (by omega) (by omega)
  have e585 : hR h' 585 32 = hR h 585 32 := eR _ _ (f88 (by omega)) (by omega) (by omega)
  have ipm : ∀ q, isPm S' G' h' q → isPm S G h q := by
    intro q hq
    rcases hq with z | ⟨p, hp, z⟩
    · exact Or.inl (by rw [z, e585])
    · rw [e1] at hp
      rw [g1, e195 p hp] at z
      exact Or.inr ⟨p, hp, z⟩
  have hq6 : ∀ q, isPm S G h q → hC h q = 6 := by
    intro q hq
    rcases hq with z | ⟨p, hp, z⟩
    · rw [z]; exact a13.1
    · rw [z]; exact (a7.2.2 p hp).2.2.2.2.1.1
  refine ⟨?_, ?_, ?_, ?_, a34, ?_, ⟨?_, ?_, ?_⟩, ⟨?_, ?_⟩, ?_, ?_, hs, a39, ?_, ?_⟩
  · obtain ⟨s1, s2, s3⟩ := a1
    refine ⟨by rw [eC 1 (f88 (by omega))]; exact s1, by rw [er 1 (by omega)]; exact s2, fun i hi => ?_⟩
    obtain ⟨t1, t2, t3, t4, t5⟩ := s3 i hi
    rw [eC _ (fc t1), eR 704 _ (fc t1) (by omega) (by omega), eI 705 _ (fc t1) (by omega) (by omega), eC _ (fc t4), ea _ (fc t4) (by omega)]
    exact ⟨t1, t2, t3, t4, t5⟩
  · rw [eI 586 32 (f88 (by omega)) (by omega) (by omega), e0]; exact a2
  · rw [eI 587 32 (f88 (by omega)) (by omega) (by omega), e4]; exact a3
  · rw [g1]; exact a33
  · rw [g1]; exact lk
  · rw [e1, g1]; exact a7.1
  · rw [e1]; exact a7.2.1
  · rw [e1, e5, g1]
    intro p hp
    obtain ⟨b1, b2, b3, b4, b5⟩ := a7.2.2 p hp
    have z := b1.1
    rw [eC _ (fc z), eI 192 _ (fc z) (by omega) (by omega), eI 193 _ (fc z) (by omega) (by omega), e194 p hp, e195 p hp]
    exact ⟨b1, b2, b3, av p hp, (pmc _ b5.1).2 _ b5⟩
  · rw [e2, eR 583 32 (f88 (by omega)) (by omega) (by omega)]
    have z := a8.1.1
    have z2 := a8.1.2.1
    refine a8.1.cg (eC _ (fc z)) (fun f hf => eI f _ (fc z) (by omega) (by omega)) (eL _ _ (fc z) (by omega)) (ea _ (f88 (by omega)) (by omega))
  · rw [eR 583 32 (f88 (by omega)) (by omega) (by omega), eR 584 32 (f88 (by omega)) (by omega) (by omega)]; exact a8.2
  · rw [e1]; exact kn
  · rw [e3]
    refine ⟨by rw [eI 449 36 (f88 (by omega)) (by omega) (by omega)]; exact a10.1, a10.2.1, by rw [ea 37 (f88 (by omega)) (by omega)]; exact a10.2.2⟩
  · rw [e585]; exact (pmc _ a13).1
  · refine ⟨fun p hp => ?_, fun b hb => ow b ?_, ⟨?_, fun p hp => ?_⟩, fun q hq j hj => ?_⟩
    · rw [e1] at hp
      rw [g1, g2, e194 p hp]; exact a14.1 p hp
    · rcases hb with z | z | z | ⟨p, hp, z⟩
      · exact Or.inl z
      · exact Or.inr (Or.inl z)
      · exact Or.inr (Or.inr (Or.inl z))
      · rw [e1] at hp
        rw [g1, e194 p hp] at z
        exact Or.inr (Or.inr (Or.inr ⟨p, hp, z⟩))
    · rw [g3, e585]; exact a14.2.2.1.1
    · rw [e1] at hp
      rw [g1, g3, e195 p hp]; exact a14.2.2.1.2 p hp
    · have hq' := ipm q hq
      have z := hq6 q hq'
      rw [g3, eR (320 + j) q (fc z) (by omega) (by omega)]
      exact a14.2.2.2 q hq' j hj
/-- what a list's change leaves -/
theorem AF.ft {b : Nat} (af : AF b h h') (ho : ∀ n, ¬ hC h n = 0 → n < hZ h) (hz : 88 ≤ hZ h) {n : Nat} (hf : ft h n) : ¬ n = hZ h := by
  rcases hf with z | z
  · omega
  · have := ho n z; omega
theorem RC.row (hc : RC S G h) {b c : Nat} (hb : isLs S G h b) (hcc : isLs S G h c) (hne : ¬ c = b) : ¬ (hR h 1 c = hR h 1 b ∧ 32 ≤ hR h 1 c) := fun z => by
  rcases hc.ow.2.1 b hb with x | x
  · omega
  · rcases hc.ow.2.1 c hcc with y | y
    · omega
    · rw [z.1, x] at y; exact hne y.symm
theorem RC.vne (hc : RC S G h) {p c : Nat} (hp : p < (gDs S).length) (h88 : c < 88) : ¬ hR h 194 (gN (gPa G) p) = c := by
  have := (hc.ow.1 p hp).2; omega
theorem RC.vv (hc : RC S G h) {a p : Nat} (ha : a < (gDs S).length) (hp : p < (gDs S).length) (hne : ¬ a = p) : ¬ hR h 194 (gN (gPa G) a) = hR h 194 (gN (gPa G) p) := fun e => by
  have x := (hc.ow.1 a ha).1
  have y := (hc.ow.1 p hp).1
  rw [e, y] at x; exact hne x.symm
theorem LKc.af {D : List LK} {pa la : List Nat} {b : Nat} (hA : LKc D pa la h) (af : AF b h h') (ho : ∀ n, ¬ hC h n = 0 → n < hZ h) (hb : hC h b = 1) : LKc D pa la h' := by
  refine ⟨hA.1, fun k hk => ?_⟩
  have z := (hA.2 k hk).1.1
  have nz : ¬ gN la k = hZ h := by have := ho (gN la k) (by omega); omega
  have nb : ¬ gN la k = b := fun e => by rw [e] at z; omega
  rw [af.1 _ nz, af.2.1 128 _ nz (fun z => nb z.2), af.2.1 130 _ nz (fun z => nb z.2), af.2.1 131 _ nz (fun z => nb z.2), af.2.1 132 _ nz (fun z => nb z.2), af.2.1 134 _ nz (fun z => nb z.2), af.2.2.1 133 _ nz, af.2.2.2.1 129 _ nz (fun z => nb z.2)]
  exact hA.2 k hk
/-- the owner of a new row -/
def ownR (o : Nat → Nat) (z b : Nat) : Nat → Nat := fun r => if r = z then b else o r
theorem RC.wh39 (hc : RC S G h) (hy : Lay h) (ho : ∀ n, ¬ hC h n = 0 → n < hZ h) {wh : List Nat} (af : AF 39 h h') (hA : AL h' 39 (vwA (gLa G) wh)) : RC (sWh S wh) (G.1, G.2.1, G.2.2.1, ownR G.2.2.2.1 (hZ h) 39, G.2.2.2.2) h' ∧ OX h h' := by
  have hz : 88 ≤ hZ h := hy.1
  have n0 : ∀ {n}, ft h n → ¬ n = hZ h := fun hf => af.ft ho hz hf
  have i39 : isLs S G h 39 := Or.inr (Or.inr (Or.inl rfl))
  have c39 := yc39 hy
  have lz : ∀ b, isLs S G h b → ¬ b = hZ h ∧ ¬ hR h 1 b = hZ h := fun b hb => by
    have hh : ∃ L, AL h b L := by
      rcases hb with z | z | z | ⟨p, hp, z⟩
      · exact ⟨_, z ▸ hc.pg⟩
      · exact ⟨_, z ▸ hc.lk⟩
      · exact ⟨_, z ▸ hc.wh⟩
      · exact ⟨_, z ▸ (hc.pgs.2.2 p hp).2.2.2.1⟩
    obtain ⟨L, hL⟩ := hh
    have x := ho b (by rw [hL.1]; decide)
    have y := ho (hR h 1 b) (by rw [hL.2.2.1]; decide)
    omega
  have ox : OX h h' := ⟨fun f hf => ⟨af.2.1 f 62 (by omega) (by omega), af.2.2.1 f 62 (by omega)⟩, fun x h1 h2 => ⟨af.2.2.2.2.1 x (by omega), af.2.2.2.2.2.1 x (by omega)⟩⟩
  refine ⟨hc.gen (fun n hf => af.1 n (n0 hf)) (fun f n hf _ h2 => af.2.1 f n (n0 hf) (fun z => h2 z.1)) (fun f n hf _ => af.2.2.1 f n (n0 hf)) (fun f n hf _ h2 => af.2.2.2.1 f n (n0 hf) (fun z => h2 z.1)) (fun n hf _ => af.2.2.2.2.1 n (n0 hf)) (fun n hn => af.2.2.2.2.2.2.1 n (by omega) (by omega)) hy rfl rfl rfl rfl rfl rfl rfl rfl rfl
    (hc.pg.af af (by decide) ho (hc.row i39 (Or.inl rfl) (by decide))) (hc.lk.af af (by decide) ho (hc.row i39 (Or.inr (Or.inl rfl)) (by decide))) hA (fun p hp => ?_) ?_ ?_ ?_ (fun b hb => ?_), ox⟩
  · exact (hc.pgs.2.2 p hp).2.2.2.1.af af (hc.vne hp (by decide)) ho (hc.row i39 (Or.inr (Or.inr (Or.inr ⟨p, hp, rfl⟩))) (hc.vne hp (by decide)))
  · exact hc.lks.af af ho (yc39 hy)
  · rw [af.2.2.2.2.1 35 (by omega)]; exact hc.kn
  · rw [af.2.2.2.2.2.1 53 (by omega)]; exact hc.hs
  · obtain ⟨b1, b2⟩ := lz b hb
    show _ ∨ (if hR h' 1 b = hZ h then 39 else G.2.2.2.1 (hR h' 1 b)) = b
    by_cases c : b = 39
    · subst c
      rcases af.2.2.2.2.2.2.2.2 with z | z
      · rw [z]
        rcases hc.ow.2.1 39 i39 with x | x
        · exact Or.inl x
        · right; rw [if_neg b2]; exact x
      · right; rw [z, if_pos rfl]
    · rw [af.2.2.2.1 1 b b1 (fun z => c z.2), if_neg b2]
      exact hc.ow.2.1 b hb
theorem c_wipe (hc : RC S G h) (qq : ∀ G' h', RC (wipeF S).2 G' h' → OX h h' → Q (some (vi (wipeF S).1)) h') : Con l w true (d + 1) HX8_wipe [vr 32] h 0 0 Q := by
  refine Con.of ok_X8_wipe (nones := [none]) rfl (by simp) ?_
  refine Ex.lay (fun hy => ?_)
  refine Ex.old (fun ho hz => ?_)
  refine go ok_X8_wipe ?_
  refine And.intro hc.wh.1 ?_
  refine Cal.z (j_size hc.wh ?_)
  rw [vwA_len]
  refine go ok_X8_wipe ?_
  refine And.intro hc.wh.1 ?_
  refine Cal.z (j_clear hc.wh (fun h' hA af hz' => ?_))
  obtain ⟨z1, z2⟩ := hc.wh39 hy ho (wh := []) af hA
  refine go ok_X8_wipe ?_
  exact qq _ h' z1 z2
end C40

