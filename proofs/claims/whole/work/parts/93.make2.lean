/-! ===== a page is made ===== -/
section M2s
variable {l : Launch} {w : WD} {d : Nat} {h h' h1 h2 : AH} {Q : Option AV → AH → Prop} {a n f : Nat}
theorem arH_sm (hn : ¬ n = a) (hz : ¬ n = hZ h) {k : Nat} : SM h (arH h f a k) n := (((SM.rf h n).nw hz).t hz).sr hn
theorem arH_at (haz : ¬ a = hZ h) {k : Nat} : hC (arH h f a k) a = hC h a ∧ hR (arH h f a k) f a = hZ h ∧ (∀ g, ¬ g = f → hR (arH h f a k) g a = hR h g a) ∧ (∀ g, hI (arH h f a k) g a = hI h g a) ∧ (hC (arH h f a k) (hZ h) = 101 ∧ aI (arH h f a k) (hZ h) = List.replicate k 0) ∧ hZ (arH h f a k) = hZ h + 1 := by
  unfold arH
  refine ⟨hC_nW haz, by rw [hR_sR, if_pos ⟨rfl, rfl⟩], fun g hg => ?_, fun g => ?_, ⟨nW_C h 101, by rw [aI_sR, aI_tI, if_pos rfl]⟩, rfl⟩
  · rw [hR_sR, if_neg (fun z => hg z.1)]
    show (if a = hZ h then 0 else hR h g a) = _
    rw [if_neg haz]
  · show (if a = hZ h then 0 else hI h g a) = _
    rw [if_neg haz]
/-- what a new program is -/
def NPr (h h' : AH) (a : Nat) : Prop := (∀ m, m < hZ h → ¬ m = a → SM h h' m) ∧ hC h' a = hC h a ∧ ((∀ j, j < 3 → hR h' (320 + j) a = hZ h + j ∧ hC h' (hZ h + j) = 101 ∧ aI h' (hZ h + j) = List.replicate 8 0) ∧ hI h' 323 a = 0 ∧ hI h' 324 a = 0) ∧ hZ h' = hZ h + 3
theorem prH_ok (haz : a < hZ h) : NPr h (prH h a) a := by
  unfold prH
  have x1 := arH_at (h := h) (f := 320) (a := a) (k := 8) (by omega)
  have s1 : ∀ m, m < hZ h → ¬ m = a → SM h (arH h 320 a 8) m := fun m hm hne => arH_sm hne (by omega)
  generalize arH h 320 a 8 = A at *
  have z1 := x1.2.2.2.2.2
  have x2 := arH_at (h := A) (f := 321) (a := a) (k := 8) (by omega)
  have s2 : ∀ m, m < hZ h + 1 → ¬ m = a → SM A (arH A 321 a 8) m := fun m hm hne => arH_sm hne (by omega)
  generalize arH A 321 a 8 = B at *
  have z2 := x2.2.2.2.2.2
  have x3 := arH_at (h := B) (f := 322) (a := a) (k := 8) (by omega)
  have s3 : ∀ m, m < hZ h + 2 → ¬ m = a → SM B (arH B 322 a 8) m := fun m hm hne => arH_sm hne (by omega)
  generalize arH B 322 a 8 = C at *
  have z3 := x3.2.2.2.2.2
  have s4 : ∀ m, ¬ m = a → SM C (sI (sI C 323 a 0) 324 a 0) m := fun m hne => ((SM.rf C m).s hne).s hne
  refine ⟨fun m hm hne => (((s1 m hm hne).tr (s2 m (by omega) hne)).tr (s3 m (by omega) hne)).tr (s4 m hne), ?_, ⟨fun j hj => ?_, ?_, ?_⟩, ?_⟩
  · show hC C a = _
    rw [x3.1, x2.1, x1.1]
  · show hR C (320 + j) a = _ ∧ hC C (hZ h + j) = 101 ∧ aI C (hZ h + j) = _
    have hj' : j = 0 ∨ j = 1 ∨ j = 2 := by omega
    rcases hj' with z | z | z
    · subst z
      have y := ((s2 (hZ h) (by omega) (by omega)).tr (s3 (hZ h) (by omega) (by omega)))
      refine ⟨by rw [x3.2.2.1 _ (by omega), x2.2.2.1 _ (by omega)]; exact x1.2.1, ?_, ?_⟩
      · exact y.1.trans x1.2.2.2.2.1.1
      · exact y.2.2.2.2.1.trans x1.2.2.2.2.1.2
    · subst z
      have y := (s3 (hZ h + 1) (by omega) (by omega))
      rw [← z1] at y ⊢
      refine ⟨by rw [x3.2.2.1 _ (by omega)]; exact x2.2.1, ?_, ?_⟩
      · exact y.1.trans x2.2.2.2.2.1.1
      · exact y.2.2.2.2.1.trans x2.2.2.2.2.1.2
    · subst z
      have e : hZ h + 2 = hZ B := by omega
      rw [e]
      exact ⟨x3.2.1, x3.2.2.2.2.1.1, x3.2.2.2.2.1.2⟩
  · rw [hI_sI, if_neg (by omega), hI_sI, if_pos ⟨rfl, rfl⟩]
  · rw [hI_sI, if_pos ⟨rfl, rfl⟩]
  · show hZ C = _; omega
theorem NPr.pm (x : NPr h h' a) (h6 : hC h a = 6) : PMc [] a h' := by
  obtain ⟨x1, x2, ⟨x3, x4, x5⟩, x6⟩ := x
  have y0 := x3 0 (by decide)
  have y1 := x3 1 (by decide)
  have y2 := x3 2 (by decide)
  refine ⟨⟨by rw [x2]; exact h6, ⟨?_, ?_⟩, ⟨?_, ?_⟩, ⟨?_, ?_⟩⟩, x4, by decide, x5, fun k hk => absurd hk (Nat.not_lt_zero _)⟩
  · rw [show hR h' 320 a = _ from y0.1]; exact y0.2.1
  · rw [show hR h' 320 a = _ from y0.1, y0.2.2]; rfl
  · rw [show hR h' 321 a = _ from y1.1]; exact y1.2.1
  · rw [show hR h' 321 a = _ from y1.1, y1.2.2]; rfl
  · rw [show hR h' 322 a = _ from y2.1]; exact y2.2.1
  · rw [show hR h' 322 a = _ from y2.1, y2.2.2]; rfl
/-- what a new page is -/
def NPg (h h' : AH) (a : Nat) (x y : Int32) : Prop := (∀ m, m < hZ h → ¬ m = a → SM h h' m) ∧ (hC h' a = 4 ∧ hI h' 192 a = x ∧ hI h' 193 a = y ∧ hR h' 194 a = hZ h ∧ hR h' 195 a = hZ h + 1) ∧ (hC h' (hZ h) = 1 ∧ hI h' 2 (hZ h) = 0 ∧ hR h' 1 (hZ h) = 1) ∧ (PMc [] (hZ h + 1) h' ∧ ∀ j, j < 3 → hR h' (320 + j) (hZ h + 1) = hZ h + 2 + j) ∧ hZ h' = hZ h + 5
def pg1 (h : AH) (a : Nat) : AH := sR (sR (sI (nW h 1) 0 (hZ h) 0) 1 (hZ h) 1) 194 a (hZ h)
def pg2 (h : AH) (a : Nat) : AH := prH (nW (pg1 h a) 6) (hZ h + 1)
def pg3 (h : AH) (a : Nat) (x y : Int32) : AH := sI (sI (sR (pg2 h a) 195 a (hZ h + 1)) 192 a x) 193 a y
theorem pg3_ok (h4 : hC h a = 4) (haz : a < hZ h) {x y : Int32} : NPg h (pg3 h a x y) a x y := by
  have s1 : ∀ m, m < hZ h → ¬ m = a → SM h (pg1 h a) m := fun m hm hne => ((((SM.rf h m).nw (by omega)).s (by omega)).sr (by omega)).sr hne
  have c1 : hC (pg1 h a) a = 4 := by show hC (nW h 1) a = 4; rw [hC_nW (by omega)]; exact h4
  have c2 : hC (pg1 h a) (hZ h) = 1 := nW_C h 1
  have c3 : hI (pg1 h a) 2 (hZ h) = 0 := by unfold pg1; rw [hI_sR, hI_sR, hI_sI, if_neg (by omega)]; exact nW_I h 1 2
  have c4 : hR (pg1 h a) 1 (hZ h) = 1 := by unfold pg1; rw [hR_sR, if_neg (by omega), hR_sR, if_pos ⟨rfl, rfl⟩]
  have c5 : hR (pg1 h a) 194 a = hZ h := by unfold pg1; rw [hR_sR, if_pos ⟨rfl, rfl⟩]
  have c6 : hZ (pg1 h a) = hZ h + 1 := rfl
  unfold pg3 pg2
  generalize pg1 h a = A at *
  have n1 : hC (nW A 6) (hZ h + 1) = 6 := by rw [← c6]; exact nW_C A 6
  have n2 : hZ (nW A 6) = hZ h + 2 := by show hZ A + 1 = _; omega
  have s2 : ∀ m, m < hZ h + 1 → SM A (nW A 6) m := fun m hm => (SM.rf A m).nw (by omega)
  have np := prH_ok (h := nW A 6) (a := hZ h + 1) (by omega)
  have pm := np.pm n1
  generalize prH (nW A 6) (hZ h + 1) = B at *
  obtain ⟨x1, x2, ⟨x3, x4, x5⟩, x6⟩ := np
  rw [n2] at x1 x3 x6
  have s3 : ∀ m, m < hZ h + 1 → SM A B m := fun m hm => (s2 m hm).tr (x1 m (by omega) (by omega))
  have s4 : ∀ m, ¬ m = a → SM B (sI (sI (sR B 195 a (hZ h + 1)) 192 a x) 193 a y) m := fun m hne => (((SM.rf B m).sr hne).s hne).s hne
  have q0 := s3 (hZ h) (by omega)
  have qa := s3 a (by omega)
  have t0 := s4 (hZ h) (by omega)
  have t1 := s4 (hZ h + 1) (by omega)
  refine ⟨fun m hm hne => ((s1 m hm hne).tr (s3 m (by omega))).tr (s4 m hne), ⟨?_, ?_, ?_, ?_, ?_⟩, ⟨?_, ?_, ?_⟩, ⟨?_, fun j hj => ?_⟩, ?_⟩
  · show hC B a = 4; rw [qa.1]; exact c1
  · rw [hI_sI, if_neg (by omega), hI_sI, if_pos ⟨rfl, rfl⟩]
  · rw [hI_sI, if_pos ⟨rfl, rfl⟩]
  · rw [hR_sI, hR_sI, hR_sR, if_neg (by omega), qa.2.2.2.1]; exact c5
  · rw [hR_sI, hR_sI, hR_sR, if_pos ⟨rfl, rfl⟩]
  · show hC B (hZ h) = 1; rw [q0.1]; exact c2
  · rw [t0.2.1, q0.2.1]; exact c3
  · rw [t0.2.2.2.1, q0.2.2.2.1]; exact c4
  · refine pm.cg rfl ⟨t1.2.1 _, t1.2.1 _⟩ (fun j hj => t1.2.2.2.1 _) (fun _ _ => rfl)
  · rw [t1.2.2.2.1]; exact (x3 j hj).1
  · show hZ B = _; omega
theorem i_page (h4 : hC h a = 4) (ha : 88 ≤ a) (haz : a < hZ h) (hy : Lay h) {x y : Int32} (q : ∀ h', NPg h h' a x y → Lay h' → Q none h') : Con l w true (d + 4) HX2_init [vr a, vi x, vi y] h 5 32 Q := by
  have np := pg3_ok h4 haz (x := x) (y := y)
  have z88 := hy.1
  have ly : Lay (pg3 h a x y) := by
    obtain ⟨y1, y2, y3, y4, y5⟩ := hy
    have sm : ∀ m, m < 88 → SM h (pg3 h a x y) m := fun m hm => np.1 m (by omega) (by omega)
    refine ⟨by rw [np.2.2.2.2]; omega, fun q hq => ?_, fun q hq => ?_, fun q hq => ?_, fun q hq => ?_⟩
    · have b : q.1 < 88 := (by decide : ∀ q ∈ layC, q.1 < 88) q hq
      rw [(sm _ b).1]; exact y2 q hq
    · have b : q.2.1 < 88 := (by decide : ∀ q ∈ layR, q.2.1 < 88) q hq
      rw [(sm _ b).2.2.2.1]; exact y3 q hq
    · have b : q.1 < 88 := (by decide : ∀ q ∈ layI, q.1 < 88) q hq
      rw [(sm _ b).2.2.2.2.1]; exact y4 q hq
    · have b : q.1 < 88 := (by decide : ∀ q ∈ layJ, q.1 < 88) q hq
      rw [(sm _ b).2.2.2.2.2.1]; exact y5 q hq
  have hq := q _ np ly
  have e1 : hC (nW h 1) a = 4 := by rw [hC_nW (by omega)]; exact h4
  have e2 : hC (nW (pg1 h a) 6) a = 4 := by rw [hC_nW (by show ¬ a = hZ h + 1; omega)]; exact e1
  have e3 : hC (nW (pg1 h a) 6) (hZ h + 1) = 6 := nW_C (pg1 h a) 6
  have e4 : hC (pg2 h a) a = 4 := by
    rw [((prH_ok (h := nW (pg1 h a) 6) (a := hZ h + 1) (by show hZ h + 1 < hZ h + 1 + 1; omega)).1 a (by show a < hZ h + 1 + 1; omega) (by omega)).1]; exact e2
  refine Con.of ok_X2_init (nones := []) rfl (by simp) ?_
  refine Ex.lm ?_
  refine go ok_X2_init ?_
  refine And.intro (by omega) ?_
  refine ⟨4, 29, rfl, rfl, ?_⟩
  refine And.intro (nW_C h 1) ?_
  refine Cal.z (i_list (nW_C h 1) (by omega) ?_)
  refine go ok_X2_init ?_
  refine And.intro e1 ?_
  refine ⟨3, 24, rfl, rfl, ?_⟩
  refine And.intro e3 ?_
  refine Cal.k 3 24 (c2 := 0) (s2 := 0) rfl rfl (i_prog e3 (by omega) (by show hZ h + 1 < hZ h + 1 + 1; omega) ?_)
  refine go ok_X2_init ?_
  refine And.intro e4 ?_
  refine And.intro e4 ?_
  refine And.intro e4 ?_
  exact ⟨ly, hq⟩
end M2s

