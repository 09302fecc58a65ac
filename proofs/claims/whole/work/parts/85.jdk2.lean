/-! ===== the JDK's lists: growing, adding ===== -/
theorem tR_tR (h : AH) (a : Nat) (v u : List Nat) : tR (tR h a v) a u = tR h a u := by
  show (hC h, hI h, hL h, hR h, aI h, aL h, up1 (up1 (aR h) a v) a u, hZ h) = _
  have e : up1 (up1 (aR h) a v) a u = up1 (aR h) a u := by
    funext x
    unfold up1
    split
    · rfl
    · rfl
  rw [e]
  rfl
/-- a new row for list b -/
def gH (h : AH) (b : Nat) (R : List Nat) : AH := sR (tR (nW h 104) (hZ h) R) 1 b (hZ h)
section J2
variable {l : Launch} {w : WD} {d : Nat} {h : AH} {Q : Option AV → AH → Prop} {b : Nat} {L : List Nat}
theorem hC_nW {t n : Nat} (hn : ¬ n = hZ h) : hC (nW h t) n = hC h n := by
  show up1 (hC h) (hZ h) t n = _
  exact up1_ne hn
theorem aR_nW {t n : Nat} (hn : ¬ n = hZ h) : aR (nW h t) n = aR h n := by
  show up1 (aR h) (hZ h) [] n = _
  exact up1_ne hn
theorem j_newLength {m : Nat} (hm : m ≤ 99) (q : Q (some (vi (nI (m + max 1 (m / 2))))) h) : Con l w true (d + 1) HJ8_newLength_cabcc [vi (nI m), vi 1, vi (nI (m / 2))] h 0 0 Q := by
  have e : ∀ m, m < 100 → nI m + (if (1 : Int32) < nI (m / 2) then nI (m / 2) else 1) = nI (m + max 1 (m / 2)) ∧ ¬ nI (m + max 1 (m / 2)) ≤ 0 ∧ nI (m + max 1 (m / 2)) ≤ 2147483639 := by decide +kernel
  obtain ⟨e1, e2, e3⟩ := e m (by omega)
  refine Con.of ok_J8_newLength_cabcc (nones := [none]) rfl (by simp) ?_
  refine go ok_J8_newLength_cabcc ?_
  refine asAnd ?_
  rw [e1]
  refine And.intro (fun c => absurd c e2) (fun c => ?_)
  refine go ok_J8_newLength_cabcc ?_
  refine asAnd ?_
  refine And.intro (fun c => absurd e3 (by simpa using c)) (fun c => ?_)
  refine go ok_J8_newLength_cabcc ?_
  exact q
theorem j_copyOf3 {r n : Nat} (h1 : hC h r = 104) (h32 : 32 ≤ r) (hr : r < hZ h) (hn : (aR h r).length ≤ n) (hn2 : n ≤ 150) (he : ∀ x, x ∈ aR h r → eOK h x) (ho : ∀ n, ¬ hC h n = 0 → n < hZ h) (hz : 32 ≤ hZ h) (q : Q (some (vr (hZ h))) (tR (nW h 104) (hZ h) (aR h r ++ List.replicate (n - (aR h r).length) 0))) : Con l w true (d + 1) HJ7_copyOf_6403c [vr r, vi (nI n), vr 24] h 1 n Q := by
  have ec : (nI n).toNatClampNeg = n := nI_clamp (by omega)
  have er : aR (tR (nW h 104) (hZ h) (List.replicate n 0)) r = aR h r := by rw [aR_tR, if_neg (by omega), aR_nW (by omega)]
  have ez : aR (tR (nW h 104) (hZ h) (List.replicate n 0)) (hZ h) = List.replicate n 0 := by rw [aR_tR, if_pos rfl]
  have ec1 : hC (tR (nW h 104) (hZ h) (List.replicate n 0)) r = 104 := by rw [hC_tR, hC_nW (by omega)]; exact h1
  have ec2 : hC (tR (nW h 104) (hZ h) (List.replicate n 0)) (hZ h) = 104 := by rw [hC_tR]; show up1 (hC h) (hZ h) 104 (hZ h) = 104; unfold up1; rw [if_pos rfl]
  have eo : ∀ x, x ∈ aR h r → eOK (tR (nW h 104) (hZ h) (List.replicate n 0)) x := fun x hx => by
    rcases he x hx with z | z
    · exact Or.inl z
    · have hne : ¬ x = hZ h := by have := ho x (by omega); omega
      exact Or.inr ⟨z.1, by rw [hC_tR, hC_nW hne]; exact z.2⟩
  refine Con.of ok_J7_copyOf_6403c (nones := [none]) rfl (by simp) ?_
  refine go ok_J7_copyOf_6403c ?_
  refine And.intro (Or.inl ⟨rfl, rfl⟩) ?_
  refine And.intro (fun c => absurd rfl c) (fun c => ?_)
  refine go ok_J7_copyOf_6403c ?_
  refine And.intro (nI_pos (by omega)) ?_
  refine And.intro (by rw [ec]; omega) ?_
  refine ⟨0, 0, rfl, by rw [ec]; omega, ?_⟩
  rw [ec] at *
  refine Or.inr (Or.inl ⟨ec1, ?_⟩)
  rw [er]
  have em : (if nI n < nI (aR h r).length then nI n else nI (aR h r).length) = nI (aR h r).length := by
    split
    · rename_i c
      rw [nI_ltI (by omega) (by omega)] at c
      omega
    · rfl
  have el : (nI (aR h r).length).toNatClampNeg = (aR h r).length := nI_clamp (by omega)
  have e0 : (0 : Int32).toNatClampNeg = 0 := rfl
  have ecp : cpy (aR h r) (List.replicate n 0) 0 0 (aR h r).length = aR h r ++ List.replicate (n - (aR h r).length) 0 := by
    unfold cpy
    simp
  refine asAnd ?_
  rw [em]
  refine And.intro ⟨nI_pos' (by omega), by decide, by decide, hz⟩ ?_
  refine Or.inr ⟨ec1, h32, ec2, ?_, ?_, ?_, ?_⟩
  · rw [e0, el, er]; omega
  · rw [e0, el, ez, List.length_replicate]; omega
  · rw [er]; exact eo
  · rw [e0, el, er, ez, ecp, tR_tR]
    exact q
theorem j_copyOf2 {r n : Nat} (h1 : hC h r = 104) (h32 : 32 ≤ r) (hr : r < hZ h) (hn : (aR h r).length ≤ n) (hn2 : n ≤ 150) (he : ∀ x, x ∈ aR h r → eOK h x) (ho : ∀ n, ¬ hC h n = 0 → n < hZ h) (hz : 32 ≤ hZ h) (q : Q (some (vr (hZ h))) (tR (nW h 104) (hZ h) (aR h r ++ List.replicate (n - (aR h r).length) 0))) : Con l w true (d + 2) HJ7_copyOf_1904c [vr r, vi (nI n)] h 1 n Q := by
  refine Con.of ok_J7_copyOf_1904c (nones := []) rfl (by simp) ?_
  refine go ok_J7_copyOf_1904c ?_
  refine And.intro h1 ?_
  refine Cal.k 1 n (c2 := 0) (s2 := 0) rfl (by omega) (j_copyOf3 h1 h32 hr hn hn2 he ho hz ?_)
  refine go ok_J7_copyOf_1904c ?_
  exact q
theorem grow_n {m : Nat} (hm : m ≤ 99) : nI m >>> ((1 : Int32) &&& 31) = nI (m / 2) ∧ nI (m + 1) - nI m = 1 := (by decide +kernel : ∀ m, m < 100 → nI m >>> ((1 : Int32) &&& 31) = nI (m / 2) ∧ nI (m + 1) - nI m = 1) m (by omega)
theorem j_grow1 (hA : AL h b L) (hf : L.length = (aR h (hR h 1 b)).length) (hl : L.length ≤ 99) (ho : ∀ n, ¬ hC h n = 0 → n < hZ h) (hz : 32 ≤ hZ h) (q : ∀ k, 1 ≤ k → L.length + k ≤ 150 → Q (some (vr (hZ h))) (gH h b (aR h (hR h 1 b) ++ List.replicate k 0))) : Con l w true (d + 3) HJx4a65c_grow_92f84 [vr b, vi (nI (L.length + 1))] h 1 150 Q := by
  obtain ⟨a1, a2, a3, a4, a5, a6, a7, a8⟩ := hA
  have hb : b < hZ h := ho b (by omega)
  have hr : hR h 1 b < hZ h := ho _ (by omega)
  have b1 : hC (nW h 104) b = 1 := by rw [hC_nW (by omega)]; exact a1
  obtain ⟨g1, g2⟩ := grow_n hl
  have k20 : 32 ≤ hR h 1 b → Ex l w true mJx4a65c_grow_92f84 (d + 3) Q 20 [some (vr b), some (vi (nI (L.length + 1))), some (vi (nI L.length)), none] [] h 1 150 := by
    intro h32
    refine go ok_Jx4a65c_grow_92f84 ?_
    refine asCal ?_
    rw [g1, g2]
    refine Cal.z (j_newLength hl ?_)
    refine go ok_Jx4a65c_grow_92f84 ?_
    refine And.intro a1 ?_
    refine Cal.k 1 (L.length + max 1 (L.length / 2)) (c2 := 0) (s2 := 150 - (L.length + max 1 (L.length / 2))) rfl (by omega) (j_copyOf2 a3 h32 hr (by omega) (by omega) a8 ho hz ?_)
    have q := q (max 1 (L.length / 2)) (by omega) (by omega)
    rw [← hf, show L.length + max 1 (L.length / 2) - L.length = max 1 (L.length / 2) by omega]
    refine go ok_Jx4a65c_grow_92f84 ?_
    refine And.intro b1 ?_
    exact q
  refine Con.of ok_Jx4a65c_grow_92f84 (nones := [none, none]) rfl (by simp) ?_
  refine go ok_Jx4a65c_grow_92f84 ?_
  refine And.intro a1 ?_
  refine Or.inr (Or.inl ⟨a3, ?_⟩)
  refine asAnd ?_
  rw [← hf]
  refine And.intro (fun c => ?_) (fun c => ?_)
  · exact k20 (a7.elim (fun z => absurd c (by rw [hf, z.2]; decide)) id)
  · have hL : L.length = 0 := by
      rcases Nat.eq_zero_or_pos L.length with z | z
      · exact z
      · exact absurd (show nI 0 < nI L.length by rw [nI_ltI (by omega) (by omega)]; exact z) c
    refine go ok_Jx4a65c_grow_92f84 ?_
    refine And.intro a1 ?_
    refine And.intro (Or.inr ⟨by unfold rOK; omega, by unfold rOK; omega⟩) ?_
    refine And.intro (fun c2 => ?_) (fun c2 => ?_)
    · have q := q 10 (by decide) (by omega)
      rw [show aR h (hR h 1 b) = [] from List.eq_nil_of_length_eq_zero (by omega)] at q
      have e1 : (if (10 : Int32) < nI (L.length + 1) then nI (L.length + 1) else 10) = 10 := by rw [hL]; decide
      refine go ok_Jx4a65c_grow_92f84 ?_
      refine asAnd ?_
      rw [e1]
      refine And.intro (by decide) ?_
      refine And.intro (by decide) ?_
      refine ⟨0, 140, rfl, rfl, ?_⟩
      refine And.intro b1 ?_
      exact q
    · exact k20 (a7.elim (fun z => absurd z.1 c2) id)
theorem j_grow0 (hA : AL h b L) (hf : L.length = (aR h (hR h 1 b)).length) (hl : L.length ≤ 99) (ho : ∀ n, ¬ hC h n = 0 → n < hZ h) (hz : 32 ≤ hZ h) (q : ∀ k, 1 ≤ k → L.length + k ≤ 150 → Q (some (vr (hZ h))) (gH h b (aR h (hR h 1 b) ++ List.replicate k 0))) : Con l w true (d + 4) HJx4a65c_grow_d5877 [vr b] h 1 150 Q := by
  refine Con.of ok_Jx4a65c_grow_d5877 (nones := []) rfl (by simp) ?_
  refine go ok_Jx4a65c_grow_d5877 ?_
  refine And.intro hA.1 ?_
  refine And.intro hA.1 ?_
  refine asCal ?_
  rw [hA.2.1, nI_1]
  refine Cal.k 1 150 (c2 := 0) (s2 := 0) rfl rfl (j_grow1 hA hf hl ho hz (fun k h1 h2 => ?_))
  refine go ok_Jx4a65c_grow_d5877 ?_
  exact q k h1 h2
theorem AL_fin {h' : AH} {row e : Nat} {R : List Nat} (c1 : hC h' b = 1) (c2 : hI h' 2 b = nI (L.length + 1)) (c3 : hR h' 1 b = row) (c4 : hC h' row = 104) (c5 : aR h' row = R.set L.length e) (c6 : L.length < R.length) (c7 : R.length ≤ 150) (c8 : ∀ i, i < L.length → R.getD i 0 = gN L i) (c9 : 32 ≤ row) (c10 : ∀ r, r ∈ R → eOK h' r) (c11 : eOK h' e) : AL h' b (L ++ [e]) := by
  have el : (L ++ [e]).length = L.length + 1 := by rw [List.length_append]; rfl
  unfold AL
  rw [c3, c5, el, List.length_set]
  refine ⟨c1, c2, c4, by omega, c7, fun i hi => ?_, Or.inr c9, fun r hr => ?_⟩
  · show _ = (L ++ [e]).getD i 0
    rw [getD_set, getD_snoc]
    by_cases c : i = L.length
    · rw [if_pos ⟨c, c6⟩, if_neg (by omega), if_pos c]
    · rw [if_neg (fun z => c z.1), if_pos (by omega)]; exact c8 i (by omega)
  · rcases List.mem_or_eq_of_mem_set hr with z | z
    · exact c10 r z
    · rw [z]; exact c11
/-- an element added where there is room -/
def adH (h : AH) (b e : Nat) (x : Int32) : AH := sI (tR h (hR h 1 b) ((aR h (hR h 1 b)).set x.toNatClampNeg e)) 2 b (x + 1)
theorem adH_ok (hA : AL h b L) {e : Nat} (he : eOK h e) (r32 : 32 ≤ hR h 1 b) (c : L.length < (aR h (hR h 1 b)).length) : AL (adH h b e (nI L.length)) b (L ++ [e]) ∧ AF b h (adH h b e (nI L.length)) ∧ hZ (adH h b e (nI L.length)) = hZ h := by
  obtain ⟨a1, a2, a3, a4, a5, a6, a7, a8⟩ := hA
  unfold adH
  rw [nI_clamp (by omega)]
  refine ⟨AL_fin (row := hR h 1 b) a1 (by rw [hI_sI, if_pos ⟨rfl, rfl⟩, nI_1]) rfl a3 (by rw [aR_sI, aR_tR, if_pos rfl]) c a5 a6 r32 a8 he, ⟨fun _ _ => rfl, fun f n _ hn => by rw [hI_sI, if_neg (fun z => hn ⟨Or.inr z.1, z.2⟩)]; rfl, fun _ _ _ => rfl, fun _ _ _ _ => rfl, fun _ _ => rfl, fun _ _ => rfl, fun n _ hn => by rw [aR_sI, aR_tR, if_neg (fun z => hn ⟨z, by omega⟩)], Nat.le_refl _, Or.inl rfl⟩, rfl⟩
theorem gH_ok (hA : AL h b L) (ho : ∀ n, ¬ hC h n = 0 → n < hZ h) (hz : 32 ≤ hZ h) (hf : L.length = (aR h (hR h 1 b)).length) {k : Nat} (h1 : 1 ≤ k) (h2 : L.length + k ≤ 150) : (AL (gH h b (aR h (hR h 1 b) ++ List.replicate k 0)) b L ∧ AF b h (gH h b (aR h (hR h 1 b) ++ List.replicate k 0)) ∧ hZ (gH h b (aR h (hR h 1 b) ++ List.replicate k 0)) = hZ h + 1) ∧ (hR (gH h b (aR h (hR h 1 b) ++ List.replicate k 0)) 1 b = hZ h ∧ (aR (gH h b (aR h (hR h 1 b) ++ List.replicate k 0)) (hZ h)).length = L.length + k) ∧ ∀ x, eOK h x → eOK (gH h b (aR h (hR h 1 b) ++ List.replicate k 0)) x := by
  obtain ⟨a1, a2, a3, a4, a5, a6, a7, a8⟩ := hA
  have hb : b < hZ h := ho b (by omega)
  have oC : ∀ n, ¬ n = hZ h → hC (gH h b (aR h (hR h 1 b) ++ List.replicate k 0)) n = hC h n := fun n hn => hC_nW hn
  have zC : hC (gH h b (aR h (hR h 1 b) ++ List.replicate k 0)) (hZ h) = 104 := by show up1 (hC h) (hZ h) 104 (hZ h) = 104; exact up1_eq
  have zR : aR (gH h b (aR h (hR h 1 b) ++ List.replicate k 0)) (hZ h) = aR h (hR h 1 b) ++ List.replicate k 0 := by unfold gH; rw [aR_sR, aR_tR, if_pos rfl]
  have eo : ∀ x, eOK h x → eOK (gH h b (aR h (hR h 1 b) ++ List.replicate k 0)) x := fun x hx => by
    rcases hx with z | z
    · exact Or.inl z
    · exact Or.inr ⟨z.1, by rw [oC x (by have := ho x (by omega); omega)]; exact z.2⟩
  have nI' : ∀ f n, ¬ n = hZ h → hI (gH h b (aR h (hR h 1 b) ++ List.replicate k 0)) f n = hI h f n := fun f n hn => by show (if n = hZ h then 0 else hI h f n) = _; rw [if_neg hn]
  have nL' : ∀ f n, ¬ n = hZ h → hL (gH h b (aR h (hR h 1 b) ++ List.replicate k 0)) f n = hL h f n := fun f n hn => by show (if n = hZ h then 0 else hL h f n) = _; rw [if_neg hn]
  have nR' : ∀ f n, ¬ n = hZ h → ¬ (f = 1 ∧ n = b) → hR (gH h b (aR h (hR h 1 b) ++ List.replicate k 0)) f n = hR h f n := fun f n hn hn2 => by unfold gH; rw [hR_sR, if_neg hn2]; show (if n = hZ h then 0 else hR h f n) = _; rw [if_neg hn]
  have b1 : hR (gH h b (aR h (hR h 1 b) ++ List.replicate k 0)) 1 b = hZ h := by unfold gH; rw [hR_sR, if_pos ⟨rfl, rfl⟩]
  have naI : ∀ n, ¬ n = hZ h → aI (gH h b (aR h (hR h 1 b) ++ List.replicate k 0)) n = aI h n := fun n hn => by show up1 (aI h) (hZ h) [] n = _; exact up1_ne hn
  have naL : ∀ n, ¬ n = hZ h → aL (gH h b (aR h (hR h 1 b) ++ List.replicate k 0)) n = aL h n := fun n hn => by show up1 (aL h) (hZ h) [] n = _; exact up1_ne hn
  have naR : ∀ n, ¬ n = hZ h → aR (gH h b (aR h (hR h 1 b) ++ List.replicate k 0)) n = aR h n := fun n hn => by unfold gH; rw [aR_sR, aR_tR, if_neg hn, aR_nW hn]
  have zZ : hZ (gH h b (aR h (hR h 1 b) ++ List.replicate k 0)) = hZ h + 1 := rfl
  have lR : (aR h (hR h 1 b) ++ List.replicate k 0).length = L.length + k := by rw [List.length_append, List.length_replicate, ← hf]
  generalize gH h b (aR h (hR h 1 b) ++ List.replicate k 0) = g at *
  refine ⟨⟨⟨by rw [oC b (by omega)]; exact a1, by rw [nI' _ _ (by omega)]; exact a2, by rw [b1]; exact zC, by rw [b1, zR]; omega, by rw [b1, zR]; omega, fun i hi => ?_, by rw [b1]; omega, fun r hr => ?_⟩, ⟨oC, fun f n hn _ => nI' f n hn, nL', nR', naI, naL, fun n hn _ => naR n hn, by omega, Or.inr b1⟩, zZ⟩, ⟨b1, by rw [zR]; exact lR⟩, eo⟩
  · rw [b1, zR, ← a6 i hi, List.getD_eq_getElem?_getD, List.getD_eq_getElem?_getD, List.getElem?_append_left (by omega)]
  · rw [b1, zR] at hr
    rcases List.mem_append.mp hr with z | z
    · exact eo r (a8 r z)
    · exact Or.inl (List.eq_of_mem_replicate z)
theorem AF.ad {g : AH} {e : Nat} {x : Int32} (a : AF b h g) (hr : hR g 1 b = hZ h) : AF b h (adH g b e x) := by
  obtain ⟨x1, x2, x3, x4, x5, x6, x7, x8, x9⟩ := a
  refine ⟨x1, fun f n h1 h2 => ?_, x3, x4, x5, x6, fun n h1 h2 => ?_, x8, x9⟩
  · unfold adH
    rw [hI_sI, if_neg (fun z => h2 ⟨Or.inr z.1, z.2⟩)]
    exact x2 f n h1 h2
  · unfold adH
    rw [aR_sI, aR_tR, if_neg (by rw [hr]; exact h1)]
    exact x7 n h1 h2
theorem k_add11 {g : AH} (hA : AL g b L) {e : Nat} (he : eOK g e) (r32 : 32 ≤ hR g 1 b) (c : L.length < (aR g (hR g 1 b)).length) {bc bs : Nat} (q : Q none (adH g b e (nI L.length))) : Ex l w true mJx4a65c_add_72be8 (d + 5) Q 11 [some (vr b), some (vr e), some (vr (hR g 1 b)), some (vi (nI L.length))] [] g bc bs := by
  obtain ⟨a1, a2, a3, a4, a5, a6, a7, a8⟩ := hA
  refine go ok_Jx4a65c_add_72be8 ?_
  refine And.intro ⟨⟨a3, ix_of rfl c (by omega)⟩, r32, he⟩ ?_
  refine And.intro a1 ?_
  exact q
theorem j_add3 (hA : AL h b L) (hl : L.length ≤ 99) {e : Nat} (he : eOK h e) (q : ∀ h', AL h' b (L ++ [e]) → AF b h h' → hZ h' ≤ hZ h + 1 → Q none h') : Con l w true (d + 5) HJx4a65c_add_72be8 [vr b, vr e, vr (hR h 1 b), vi (nI L.length)] h 1 150 Q := by
  refine Con.of ok_Jx4a65c_add_72be8 (nones := []) rfl (by simp) ?_
  refine Ex.old (fun ho hz => ?_)
  have a1 := hA.1
  have a3 := hA.2.2.1
  have a4 := hA.2.2.2.1
  have a5 := hA.2.2.2.2.1
  have a7 := hA.2.2.2.2.2.2.1
  refine go ok_Jx4a65c_add_72be8 ?_
  refine Or.inr (Or.inl ⟨a3, ?_⟩)
  refine asAnd ?_
  rw [nI_eq (by omega) (by omega)]
  refine And.intro (fun c => ?_) (fun c => ?_)
  · have r32 : 32 ≤ hR h 1 b := by
      rcases a7 with z | z
      · rw [z.2] at a4 c; exact absurd (Nat.le_zero.mp a4) c
      · exact z
    obtain ⟨o1, o2, o3⟩ := adH_ok hA he r32 (by omega)
    exact k_add11 hA he r32 (by omega) (q _ o1 o2 (by omega))
  · refine go ok_Jx4a65c_add_72be8 ?_
    refine And.intro a1 ?_
    refine Cal.k 1 150 (c2 := 0) (s2 := 0) rfl rfl (j_grow0 hA c hl ho hz (fun k h1 h2 => ?_))
    obtain ⟨⟨g1, g2, g3⟩, ⟨g4, g5⟩, g6⟩ := gH_ok hA ho hz c h1 h2
    generalize gH h b (aR h (hR h 1 b) ++ List.replicate k 0) = g at *
    rw [← g4] at g5
    obtain ⟨o1, o2, o3⟩ := adH_ok g1 (g6 e he) (by omega) (by omega)
    have hh := k_add11 (l := l) (w := w) (d := d) (Q := Q) (bc := 0) (bs := 0) g1 (g6 e he) (by omega) (by omega) (q _ o1 (g2.ad g4) (by omega))
    rw [g4] at hh
    refine goN 1 ok_Jx4a65c_add_72be8 ?_
    exact hh
theorem j_add (hA : AL h b L) (hl : L.length ≤ 99) {e : Nat} (he : eOK h e) (q : ∀ h', AL h' b (L ++ [e]) → AF b h h' → hZ h' ≤ hZ h + 1 → Q (some (vi 1)) h') : Con l w true (d + 6) HJx4a65c_add_9ea2d [vr b, vr e] h 1 150 Q := by
  have hA' : AL (sI h 0 b (hI h 0 b + 1)) b L := hA.cg rfl (by rw [hI_sI, if_neg (by omega)]) rfl rfl
  refine Con.of ok_Jx4a65c_add_9ea2d (nones := []) rfl (by simp) ?_
  refine go ok_Jx4a65c_add_9ea2d ?_
  refine And.intro hA.1 ?_
  refine And.intro hA.1 ?_
  refine And.intro hA.1 ?_
  refine And.intro hA.1 ?_
  refine And.intro hA.1 ?_
  refine asCal ?_
  rw [show hI (sI h 0 b (hI h 0 b + 1)) 2 b = nI L.length from hA'.2.1]
  refine Cal.k 1 150 (c2 := 0) (s2 := 0) rfl rfl (j_add3 hA' hl he (fun h' hA2 haf hz => ?_))
  refine go ok_Jx4a65c_add_9ea2d ?_
  refine And.intro (Or.inr rfl) ?_
  refine q h' hA2 ⟨haf.1, fun f n h1 h2 => ?_, haf.2.2.1, haf.2.2.2⟩ hz
  rw [haf.2.1 f n h1 h2, hI_sI, if_neg (fun z => h2 ⟨Or.inl z.1, z.2⟩)]
end J2

