/-! ===== objects are made ===== -/
/-- a cell stands as it did -/
def SM (h h' : AH) (n : Nat) : Prop := hC h' n = hC h n ∧ (∀ f, hI h' f n = hI h f n) ∧ (∀ f, hL h' f n = hL h f n) ∧ (∀ f, hR h' f n = hR h f n) ∧ aI h' n = aI h n ∧ aL h' n = aL h n ∧ aR h' n = aR h n
section M1
variable {l : Launch} {w : WD} {d : Nat} {h h' h1 h2 : AH} {Q : Option AV → AH → Prop} {a n f : Nat}
theorem SM.rf (h : AH) (n : Nat) : SM h h n := ⟨rfl, fun _ => rfl, fun _ => rfl, fun _ => rfl, rfl, rfl, rfl⟩
theorem SM.tr (x : SM h h1 n) (y : SM h1 h2 n) : SM h h2 n := ⟨y.1.trans x.1, fun f => (y.2.1 f).trans (x.2.1 f), fun f => (y.2.2.1 f).trans (x.2.2.1 f), fun f => (y.2.2.2.1 f).trans (x.2.2.2.1 f), y.2.2.2.2.1.trans x.2.2.2.2.1, y.2.2.2.2.2.1.trans x.2.2.2.2.2.1, y.2.2.2.2.2.2.trans x.2.2.2.2.2.2⟩
theorem SM.s (x : SM h h1 n) {v : Int32} (hn : ¬ n = a) : SM h (sI h1 f a v) n := x.tr ⟨rfl, fun g => by rw [hI_sI, if_neg (fun z => hn z.2)], fun _ => rfl, fun _ => rfl, rfl, rfl, rfl⟩
theorem SM.sl (x : SM h h1 n) {v : Int64} (hn : ¬ n = a) : SM h (sL h1 f a v) n := x.tr ⟨rfl, fun _ => rfl, fun g => by rw [hL_sL, if_neg (fun z => hn z.2)], fun _ => rfl, rfl, rfl, rfl⟩
theorem SM.sr (x : SM h h1 n) {v : Nat} (hn : ¬ n = a) : SM h (sR h1 f a v) n := x.tr ⟨rfl, fun _ => rfl, fun _ => rfl, fun g => by rw [hR_sR, if_neg (fun z => hn z.2)], rfl, rfl, rfl⟩
theorem SM.t (x : SM h h1 n) {v : List Int32} (hn : ¬ n = a) : SM h (tI h1 a v) n := x.tr ⟨rfl, fun _ => rfl, fun _ => rfl, fun _ => rfl, by rw [aI_tI, if_neg hn], rfl, rfl⟩
theorem SM.tl (x : SM h h1 n) {v : List Int64} (hn : ¬ n = a) : SM h (tL h1 a v) n := x.tr ⟨rfl, fun _ => rfl, fun _ => rfl, fun _ => rfl, rfl, by rw [aL_tL, if_neg hn], rfl⟩
theorem SM.nw (x : SM h h1 n) {t : Nat} (hn : ¬ n = hZ h1) : SM h (nW h1 t) n := x.tr ⟨hC_nW hn, fun g => by show (if n = hZ h1 then 0 else hI h1 g n) = _; rw [if_neg hn], fun g => by show (if n = hZ h1 then 0 else hL h1 g n) = _; rw [if_neg hn], fun g => by show (if n = hZ h1 then 0 else hR h1 g n) = _; rw [if_neg hn], up1_ne hn, up1_ne hn, up1_ne hn⟩
theorem nW_C (h : AH) (t : Nat) : hC (nW h t) (hZ h) = t := up1_eq
theorem nW_I (h : AH) (t g : Nat) : hI (nW h t) g (hZ h) = 0 := by show (if hZ h = hZ h then 0 else _) = _; rw [if_pos rfl]
theorem Ex.lm {X : MD} {pc : Nat} {ll : List (Option AV)} {st : List AV} {bc bs : Nat} (k : Ex l w false X d (fun v h' => Lay h' ∧ Q v h') pc ll st h bc bs) : Ex l w true X d Q pc ll st h bc bs := by
  intro p e R s m args below meth c H locs cells slots ls hCx hf hl hcl0 hsl0 hS hL hlen hva
  intro T hT XX
  obtain ⟨t, h1, o, h2, h3, ⟨v, h', g1, g2, g3⟩, h5⟩ := k p e R s m args below meth c H locs cells slots ls hCx hf hl hcl0 hsl0 ⟨hS.1, hS.2.1, hS.2.2.1, fun z => by cases z⟩ hL hlen hva T hT XX
  exact ⟨t, h1, o, h2, h3, ⟨v, h', g1, g2.2, ⟨⟨g3.1.1, g3.1.2.1, g3.1.2.2.1, fun _ => g2.1⟩, g3.2⟩⟩, h5⟩
theorem i_coll (ha : ¬ a = 0) (q : Q none h) : Con l w false (d + 1) HJxa1e45_init_da8c8 [vr a] h 0 0 Q := by
  refine Con.of ok_Jxa1e45_init_da8c8 (nones := []) rfl (by simp) ?_
  refine go ok_Jxa1e45_init_da8c8 ?_
  refine And.intro ha ?_
  exact q
theorem i_alist (h1 : hC h a = 1) (ha : ¬ a = 0) (q : Q none (sI h 0 a 0)) : Con l w false (d + 2) HJxc12de_init_da8c8 [vr a] h 0 0 Q := by
  refine Con.of ok_Jxc12de_init_da8c8 (nones := []) rfl (by simp) ?_
  refine go ok_Jxc12de_init_da8c8 ?_
  refine And.intro h1 ?_
  refine Cal.z (i_coll ha ?_)
  refine go ok_Jxc12de_init_da8c8 ?_
  refine And.intro h1 ?_
  exact q
theorem i_list (h1 : hC h a = 1) (ha : ¬ a = 0) (q : Q none (sR (sI h 0 a 0) 1 a 1)) : Con l w false (d + 3) HJx4a65c_init_da8c8 [vr a] h 0 0 Q := by
  refine Con.of ok_Jx4a65c_init_da8c8 (nones := []) rfl (by simp) ?_
  refine go ok_Jx4a65c_init_da8c8 ?_
  refine And.intro h1 ?_
  refine Cal.z (i_alist h1 ha ?_)
  refine go ok_Jx4a65c_init_da8c8 ?_
  refine And.intro h1 ?_
  exact q
/-- a new row of n ints at field f of a -/
def arH (h : AH) (f a n : Nat) : AH := sR (tI (nW h 101) (hZ h) (List.replicate n 0)) f a (hZ h)
def prH (h : AH) (a : Nat) : AH := sI (sI (arH (arH (arH h 320 a 8) 321 a 8) 322 a 8) 323 a 0) 324 a 0
theorem i_prog (h1 : hC h a = 6) (ha : ¬ a = 0) (haz : a < hZ h) (q : Q none (prH h a)) : Con l w false (d + 1) HX4_init [vr a] h 3 24 Q := by
  have w1 : hC (nW h 101) a = 6 := by rw [hC_nW (by omega)]; exact h1
  have w2 : hC (nW (arH h 320 a 8) 101) a = 6 := by rw [hC_nW (by show ¬ a = hZ h + 1; omega)]; exact w1
  have w3 : hC (nW (arH (arH h 320 a 8) 321 a 8) 101) a = 6 := by rw [hC_nW (by show ¬ a = hZ h + 1 + 1; omega)]; exact w2
  refine Con.of ok_X4_init (nones := []) rfl (by simp) ?_
  refine go ok_X4_init ?_
  refine And.intro ha ?_
  refine And.intro (by decide) (And.intro (by decide) ⟨2, 16, rfl, rfl, ?_⟩)
  refine And.intro w1 ?_
  refine And.intro (by decide) (And.intro (by decide) ⟨1, 8, rfl, rfl, ?_⟩)
  refine And.intro w2 ?_
  refine And.intro (by decide) (And.intro (by decide) ⟨0, 0, rfl, rfl, ?_⟩)
  refine And.intro w3 ?_
  refine And.intro w3 ?_
  refine And.intro w3 ?_
  refine And.intro (Or.inl rfl) ?_
  exact q
end M1

