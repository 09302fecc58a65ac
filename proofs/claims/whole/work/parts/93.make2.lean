/-! ===== a page is made ===== -/
section M2s
variable {l : Launch} {w : WD} {d : Nat} {h h' h1 h2 : AH} {Q : Option AV → AH → Prop} {a n f : Nat}
theorem arH_sm (hn : ¬ n = a) (hz : ¬ n = hZ h) {k : Nat} : SM h (arH h f a k) n := (((SM.rf h n).nw hz).t hz).sr hn
theorem arH_at (haz : ¬ a = hZ h) {k : Nat} : hC (arH h f a k) a = hC h a ∧ hR (arH h f a k) f a = hZ h ∧ (∀ g, ¬ g = f → hR (arH h f a k) g a = hR h g a) ∧ (∀ g, hI (arH h f a k) g a = hI h g a) ∧ (hC (arH h f a k) (hZ h) = 101 ∧ aI (arH h f a k) (hZ h) = List.replicate k 0) ∧ hZ (arH h f a k) = hZ h + 1 := by
  unfold arH
  refine ⟨hC_nW haz, by rw [hR_sR, if_pos ⟨rfl, rfl⟩], fun g hg => ?_, fun g => ?_, ⟨nW_C h 101, by rw [aI_sR, aI_tI, if_pos rfl]⟩, rfl⟩
  · rw [hR_sR, if_neg (fun z => hg z.1)]
    show (if a = hZ h then 0 else hR h g a) = _
    rw [if_neg haz]
  · show (if a = hZ h then 0 else hI h g a) = _
    rw [if_neg haz]
/-- what a new program is -/
def NPr (h h' : AH) (a : Nat) : Prop := (∀ m, m < hZ h → ¬ m = a → SM h h' m) ∧ hC h' a = hC h a ∧ ((∀ j, j < 3 → hR h' (320 + j) a = hZ h + j ∧ hC h' (hZ h + j) = 101 ∧ aI h' (hZ h + j) = List.replicate 8 0) ∧ hI h' 323 a = 0 ∧ hI h' 324 a = 0) ∧ hZ h' = hZ h + 3
theorem prH_ok (haz : a < hZ h) : NPr h (prH h a) a := by
  unfold prH
  have x1 := arH_at (h := h) (f := 320) (a := a) (k := 8) (by omega)
  have s1 : ∀ m, m < hZ h → ¬ m = a → SM h (arH h 320 a 8) m := fun m hm hne => arH_sm hne (by omega)
  generalize arH h 320 a 8 = A at *
  have z1 := x1.2.2.2.2.2
  have x2 := arH_at (h := A) (f := 321) (a := a) (k := 8) (by omega)
  have s2 : ∀ m, m < hZ h + 1 → ¬ m = a → SM A (arH A 321 a 8) m := fun m hm hne => arH_sm hne (by omega)
  generalize arH A 321 a 8 = B at *
  have z2 := x2.2.2.2.2.2
  have x3 := arH_at (h := B) (f := 322) (a := a) (k := 8) (by omega)
  have s3 : ∀ m, m < hZ h + 2 → ¬ m = a → SM B (arH B 322 a 8) m := fun m hm hne => arH_sm hne (by omega)
  generalize arH B 322 a 8 = C at *
  have z3 := x3.2.2.2.2.2
  have s4 : ∀ m, ¬ m = a → SM C (sI (sI C 323 a 0) 324 a 0) m := fun m hne => ((SM.rf C m).s hne).s hne
  refine ⟨fun m hm hne => (((s1 m hm hne).tr (s2 m (by omega) hne)).tr (s3 m (by omega) hne)).tr (s4 m hne), ?_, ⟨fun j hj => ?_, ?_, ?_⟩, ?_⟩
  · show hC C a = _
    rw [x3.1, x2.1, x1.1]
  · show hR C (320 + j) a = _ ∧ hC C (hZ h + j) = 101 ∧ aI C (hZ h + j) = _
    have hj' : j = 0 ∨ j = 1 ∨ j = 2 := by omega
    rcases hj' with z | z | z
    · subst z
      have y := ((s2 (hZ h) (by omega) (by omega)).tr (s3 (hZ h) (by omega) (by omega)))
      refine ⟨by rw [x3.2.2.1 _ (by omega), x2.2.2.1 _ (by omega)]; exact x1.2.1, ?_, ?_⟩
      · exact y.1.trans x1.2.2.2.2.1.1
      · exact y.2.2.2.2.1.trans x1.2.2.2.2.1.2
    · subst z
      have y := (s3 (hZ h + 1) (by omega) (by omega))
      rw [← z1] at y ⊢
      refine ⟨by rw [x3.2.2.1 _ (by omega)]; exact x2.2.1, ?_, ?_⟩
      · exact y.1.trans x2.2.2.2.2.1.1
      · exact y.2.2.2.2.1.trans x2.2.2.2.2.1.2
    · subst z
      have e : hZ h + 2 = hZ B := by omega
      rw [e]
      exact ⟨x3.2.1, x3.2.2.2.2.1.1, x3.2.2.2.2.1.2⟩
  · rw [hI_sI, if_neg (by omega), hI_sI, if_pos ⟨rfl, rfl⟩]
  · rw [hI_sI, if_pos ⟨rfl, rfl⟩]
  · show hZ C = _; omega
theorem NPr.pm (x : NPr h h' a) (h6 : hC h a = 6) : PMc [] a h' := by
  obtain ⟨x1, x2, ⟨x3, x4, x5⟩, x6⟩ := x
  have y0 := x3 0 (by decide)
  have y1 := x3 1 (by decide)
  have y2 := x3 2 (by decide)
  refine ⟨⟨by rw [x2]; exact h6, ⟨?_, ?_⟩, ⟨?_, ?_⟩, ⟨?_, ?_⟩⟩, x4, by decide, x5, fun k hk => absurd hk (Nat.not_lt_zero _)⟩
  · rw [show hR h' 320 a = _ from y0.1]; exact y0.2.1
  · rw [show hR h' 320 a = _ from y0.1, y0.2.2]; rfl
  · rw [show hR h' 321 a = _ from y1.1]; exact y1.2.1
  · rw [show hR h' 321 a = _ from y1.1, y1.2.2]; rfl
  · rw [show hR h' 322 a = _ from y2.1]; exact y2.2.1
  · rw [show hR h' 322 a = _ from y2.1, y2.2.2]; rfl
/-- what a new page is -/
def NPg (h h' : AH) (a : Nat) (x y : Int32) : Prop := (∀ m, m < hZ h → ¬ m = a → SM h h' m) ∧ (hC h' a = 4 ∧ hI h' 192 a = x ∧ hI h' 193 a = y ∧ hR h' 194 a = hZ h ∧ hR h' 195 a = hZ h + 1) ∧ (hC h' (hZ h) = 1 ∧ hI h' 2 (hZ h) = 0 ∧ hR h' 1 (hZ h) = 1) ∧ (PMc [] (hZ h + 1) h' ∧ ∀ j, j < 3 → hR h' (320 + j) (hZ h + 1) = hZ h + 2 + j) ∧ hZ h' = hZ h + 5
/-- a new cell -/
def NWf (h A : AH) (t : Nat) : Prop := (∀ m, ¬ m = hZ h → SM h A m) ∧ hC A (hZ h) = t ∧ (∀ f, hI A f (hZ h) = 0) ∧ hZ A = hZ h + 1
theorem nW_f (h : AH) (t : Nat) : NWf h (nW h t) t := ⟨fun m hm => (SM.rf h m).nw hm, nW_C h t, fun f => nW_I h t f, rfl⟩
theorem Lay.sm (hy : Lay h) (hz : 88 ≤ hZ h') (sm : ∀ m, m < 88 → SM h h' m) : Lay h' := by
  obtain ⟨y1, y2, y3, y4, y5⟩ := hy
  refine ⟨hz, fun q hq => ?_, fun q hq => ?_, fun q hq => ?_, fun q hq => ?_⟩
  · have b : q.1 < 88 := (by decide : ∀ q ∈ layC, q.1 < 88) q hq
    rw [(sm _ b).1]; exact y2 q hq
  · have b : q.2.1 < 88 := (by decide : ∀ q ∈ layR, q.2.1 < 88) q hq
    rw [(sm _ b).2.2.2.1]; exact y3 q hq
  · have b : q.1 < 88 := (by decide : ∀ q ∈ layI, q.1 < 88) q hq
    rw [(sm _ b).2.2.2.2.1]; exact y4 q hq
  · have b : q.1 < 88 := (by decide : ∀ q ∈ layJ, q.1 < 88) q hq
    rw [(sm _ b).2.2.2.2.2.1]; exact y5 q hq
theorem pg_ok {A B C : AH} {z y : Nat} (h4 : hC h a = 4) (haz : a < hZ h) (ez : z = hZ h) (ey : y = hZ h + 1) (fA : NWf h A 1) (fB : NWf (sR (sR (sI A 0 z 0) 1 z 1) 194 a z) B 6) (np : NPr B C y) {x x2 : Int32} : NPg h (sI (sI (sR C 195 a y) 192 a x) 193 a x2) a x x2 := by
  obtain ⟨a1, a2, a3, a4⟩ := fA
  have e1 : hZ (sR (sR (sI A 0 z 0) 1 z 1) 194 a z) = y := by show hZ A = y; omega
  obtain ⟨b1, b2, b3, b4⟩ := fB
  rw [e1] at b1 b2 b3 b4
  have pm := np.pm b2
  obtain ⟨x1, x2', ⟨x3, x4, x5⟩, x6⟩ := np
  rw [b4] at x1 x3 x6
  subst ez
  have s1 : ∀ m, m < hZ h → ¬ m = a → SM h (sR (sR (sI A 0 (hZ h) 0) 1 (hZ h) 1) 194 a (hZ h)) m := fun m hm hne => (((a1 m (by omega)).s (by omega)).sr (by omega)).sr hne
  have s3 : ∀ m, m < y → SM (sR (sR (sI A 0 (hZ h) 0) 1 (hZ h) 1) 194 a (hZ h)) C m := fun m hm => (b1 m (by omega)).tr (x1 m (by omega) (by omega))
  have s4 : ∀ m, ¬ m = a → SM C (sI (sI (sR C 195 a y) 192 a x) 193 a x2) m := fun m hne => (((SM.rf C m).sr hne).s hne).s hne
  have q0 := s3 (hZ h) (by omega)
  have qa := s3 a (by omega)
  have t0 := s4 (hZ h) (by omega)
  have t1 := s4 y (by omega)
  refine ⟨fun m hm hne => ((s1 m hm hne).tr (s3 m (by omega))).tr (s4 m hne), ⟨?_, ?_, ?_, ?_, ?_⟩, ⟨?_, ?_, ?_⟩, ⟨?_, fun j hj => ?_⟩, ?_⟩
  · rw [hC_sI, hC_sI, hC_sR, qa.1, hC_sR, hC_sR, hC_sI, (a1 a (by omega)).1]; exact h4
  · rw [hI_sI, if_neg (by omega), hI_sI, if_pos ⟨rfl, rfl⟩]
  · rw [hI_sI, if_pos ⟨rfl, rfl⟩]
  · rw [hR_sI, hR_sI, hR_sR, if_neg (by omega), qa.2.2.2.1, hR_sR, if_pos ⟨rfl, rfl⟩]
  · rw [hR_sI, hR_sI, hR_sR, if_pos ⟨rfl, rfl⟩, ey]
  · rw [t0.1, q0.1, hC_sR, hC_sR, hC_sI]; exact a2
  · rw [t0.2.1, q0.2.1, hI_sR, hI_sR, hI_sI, if_neg (by omega)]; exact a3 2
  · rw [t0.2.2.2.1, q0.2.2.2.1, hR_sR, if_neg (by omega), hR_sR, if_pos ⟨rfl, rfl⟩]
  · rw [← ey]
    exact pm.cg rfl ⟨t1.2.1 _, t1.2.1 _⟩ (fun j hj => t1.2.2.2.1 _) (fun _ _ => rfl)
  · rw [← ey, t1.2.2.2.1, (x3 j hj).1]; omega
  · rw [hZ_sI, hZ_sI, hZ_sR]; omega
theorem i_page (h4 : hC h a = 4) (ha : 88 ≤ a) (haz : a < hZ h) (hy : Lay h) {x x2 : Int32} (q : ∀ h', NPg h h' a x x2 → Lay h' → Q none h') : Con l w true (d + 4) HX2_init [vr a, vi x, vi x2] h 5 32 Q := by
  have z88 := hy.1
  refine Con.of ok_X2_init (nones := []) rfl (by simp) ?_
  refine Ex.lm ?_
  refine go ok_X2_init ?_
  refine And.intro (by omega) ?_
  refine ⟨4, 29, rfl, rfl, ?_⟩
  have fA := nW_f h 1
  generalize nW h 1 = A at fA ⊢
  generalize hz1 : hZ h = z at ⊢
  have z1 : hC A z = 1 := by rw [← hz1]; exact fA.2.1
  have a1 : hC A a = 4 := by rw [(fA.1 a (by omega)).1]; exact h4
  refine And.intro z1 ?_
  refine Cal.z (i_list z1 (by omega) ?_)
  refine go ok_X2_init ?_
  refine And.intro a1 ?_
  refine ⟨3, 24, rfl, rfl, ?_⟩
  have fB := nW_f (sR (sR (sI A 0 z 0) 1 z 1) 194 a z) 6
  have ey : hZ (sR (sR (sI A 0 z 0) 1 z 1) 194 a z) = hZ h + 1 := fA.2.2.2
  generalize nW (sR (sR (sI A 0 z 0) 1 z 1) 194 a z) 6 = B at fB ⊢
  have b1 : hC B a = 4 := by rw [(fB.1 a (by rw [ey]; omega)).1]; exact a1
  have b2 := fB.2.1
  have b3 := fB.2.2.2
  generalize hZ (sR (sR (sI A 0 z 0) 1 z 1) 194 a z) = y at ey b2 b3 ⊢
  refine And.intro b2 ?_
  refine Cal.k 3 24 (c2 := 0) (s2 := 0) rfl rfl (i_prog b2 (by omega) (by omega) ?_)
  have np := prH_ok (h := B) (a := y) (by omega)
  generalize prH B y = C at np ⊢
  have c1 : hC C a = 4 := by rw [(np.1 a (by omega) (by omega)).1]; exact b1
  have ok := pg_ok (x := x) (x2 := x2) h4 haz hz1.symm ey fA fB np
  have ly : Lay (sI (sI (sR C 195 a y) 192 a x) 193 a x2) := hy.sm (by rw [ok.2.2.2.2]; omega) (fun m hm => ok.1 m (by omega) (by omega))
  have hq := q _ ok ly
  have c2 : hC (sR C 195 a y) a = 3 + 1 := by rw [hC_sR]; exact c1
  have c3 : hC (sI (sR C 195 a y) 192 a x) a = 3 + 1 := by rw [hC_sI]; exact c2
  have fin : Ex l w false mX2_init (d + 4) (fun v h' => Lay h' ∧ Q v h') 26 [some (vr a), some (vi x), some (vi x2)] [] (sR C 195 a y) 0 0 := by
    clear fA fB np ok hy q
    refine go ok_X2_init ?_
    refine And.intro c2 ?_
    refine And.intro c3 ?_
    exact ⟨ly, hq⟩
  refine goN 1 ok_X2_init ?_
  refine And.intro c1 ?_
  exact fin
end M2s

