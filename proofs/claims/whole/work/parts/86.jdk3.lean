/-! ===== the JDK's lists: an element out, all out ===== -/
theorem cpy_self {s : List Nat} {i n : Nat} (h : i + n + 1 ≤ s.length) : (cpy s s (i + 1) i n).length = s.length ∧ (∀ j, (cpy s s (i + 1) i n).getD j 0 = if j < i then s.getD j 0 else if j < i + n then s.getD (j + 1) 0 else s.getD j 0) ∧ ∀ x, x ∈ cpy s s (i + 1) i n → x ∈ s := by
  unfold cpy
  refine ⟨?_, fun j => ?_, fun x hx => ?_⟩
  · simp only [List.length_append, List.length_take, List.length_drop]
    omega
  · simp only [List.getD_eq_getElem?_getD, List.getElem?_append, List.length_append, List.length_take, List.length_drop, List.getElem?_take, List.getElem?_drop]
    have e1 : min i s.length = i := by omega
    have e2 : min n (s.length - (i + 1)) = n := by omega
    rw [e1, e2]
    by_cases c1 : j < i
    · rw [if_pos (by omega), if_pos c1, if_pos c1, if_pos c1]
    · rw [if_neg c1]
      by_cases c2 : j < i + n
      · rw [if_pos c2, if_pos (by omega), if_neg c1, if_pos c2, show i + 1 + (j - i) = j + 1 by omega]
      · rw [if_neg c2, if_neg c2, show i + n + (j - (i + n)) = j by omega]
        split <;> rfl
  · rcases List.mem_append.mp hx with z | z
    · rcases List.mem_append.mp z with y | y
      · exact List.mem_of_mem_take y
      · exact List.mem_of_mem_drop (List.mem_of_mem_take y)
    · exact List.mem_of_mem_drop z
theorem gN_erase (L : List Nat) (i j : Nat) : gN (L.eraseIdx i) j = if j < i then gN L j else gN L (j + 1) := by
  show (L.eraseIdx i).getD j 0 = _
  rw [List.getD_eq_getElem?_getD, List.getElem?_eraseIdx]
  split
  · rw [← List.getD_eq_getElem?_getD]; rfl
  · rw [← List.getD_eq_getElem?_getD]; rfl
section J3
variable {l : Launch} {w : WD} {d : Nat} {h : AH} {Q : Option AV → AH → Prop} {b : Nat} {L : List Nat}
/-- a list's new row and size in place -/
def rmH (h : AH) (b : Nat) (R : List Nat) (n : Int32) (v : Int32) : AH := tR (sI (sI h 0 b v) 2 b n) (hR h 1 b) R
theorem tR_sI_tR (h : AH) (a f b : Nat) (v u : List Nat) (n : Int32) : tR (sI (tR h a v) f b n) a u = tR (sI h f b n) a u := tR_tR (sI h f b n) a v u
theorem rmH_af {R : List Nat} {n v : Int32} (r32 : 32 ≤ hR h 1 b) : AF b h (rmH h b R n v) ∧ hZ (rmH h b R n v) = hZ h := by
  unfold rmH
  refine ⟨⟨fun _ _ => rfl, fun f x _ h2 => ?_, fun _ _ _ => rfl, fun _ _ _ _ => rfl, fun _ _ => rfl, fun _ _ => rfl, fun x _ h2 => ?_, Nat.le_refl _, Or.inl rfl⟩, rfl⟩
  · rw [hI_tR, hI_sI, if_neg (fun z => h2 ⟨Or.inr z.1, z.2⟩), hI_sI, if_neg (fun z => h2 ⟨Or.inl z.1, z.2⟩)]
  · rw [aR_tR, if_neg (fun z => h2 ⟨z, by omega⟩)]; rfl
theorem rmH_al {R : List Nat} {M : List Nat} {v : Int32} (hA : AL h b L) (r32 : 32 ≤ hR h 1 b) (h1 : R.length = (aR h (hR h 1 b)).length) (h2 : M.length ≤ R.length) (h3 : ∀ i, i < M.length → R.getD i 0 = gN M i) (h4 : ∀ x, x ∈ R → eOK h x) : AL (rmH h b R (nI M.length) v) b M := by
  obtain ⟨a1, a2, a3, a4, a5, a6, a7, a8⟩ := hA
  have e : aR (rmH h b R (nI M.length) v) (hR h 1 b) = R := by unfold rmH; rw [aR_tR, if_pos rfl]
  have e1 : hR (rmH h b R (nI M.length) v) 1 b = hR h 1 b := rfl
  have e2 : hI (rmH h b R (nI M.length) v) 2 b = nI M.length := by unfold rmH; rw [hI_tR, hI_sI, if_pos ⟨rfl, rfl⟩]
  refine ⟨a1, e2, a3, ?_, ?_, ?_, Or.inr r32, ?_⟩
  · rw [e1, e]; exact h2
  · rw [e1, e, h1]; exact a5
  · rw [e1, e]; exact h3
  · rw [e1, e]; exact h4
theorem k_fr34 (hA : AL h b L) {i : Nat} (hi : i < L.length) (r32 : 32 ≤ hR h 1 b) (q : ∀ h', AL h' b (L.eraseIdx i) → AF b h h' → hZ h' = hZ h → Q none h') : ∀ R : List Nat, R.length = (aR h (hR h 1 b)).length → (∀ j, j < L.length - 1 → R.getD j 0 = gN (L.eraseIdx i) j) → (∀ x, x ∈ R → eOK h x) → Ex l w true mJx4a65c_fastRemove_b59b0 (d + 1) Q 34 [some (vr b), some (vr (hR h 1 b)), some (vi (nI i)), some (vi (nI (L.length - 1)))] [] (tR (sI h 0 b (hI h 0 b + 1)) (hR h 1 b) R) 0 0 := by
  have l150 := hA.len
  have a1 := hA.1
  have a2 := hA.2.1
  have a3 := hA.2.2.1
  have a4 := hA.2.2.2.1
  have a6 := hA.2.2.2.2.2.1
  have a8 := hA.2.2.2.2.2.2.2
  have hrb : ¬ hR h 1 b = b := fun z => by rw [z] at a3; omega
  have el : (L.eraseIdx i).length = L.length - 1 := by rw [List.length_eraseIdx, if_pos hi]
  have ep : nI L.length - 1 = nI (L.length - 1) := nI_prd (by omega)
  have ec : (nI (L.length - 1)).toNatClampNeg = L.length - 1 := nI_clamp (by omega)
  intro R h1 h2 h3
  have hq := q (rmH h b (R.set (L.length - 1) 0) (nI (L.length - 1)) (hI h 0 b + 1)) (by
    rw [← el]
    refine rmH_al hA r32 (by rw [List.length_set]; exact h1) (by rw [List.length_set]; omega) (fun j hj => ?_) (fun x hx => ?_)
    · rw [getD_set, if_neg (by omega)]; exact h2 j (by omega)
    · rcases List.mem_or_eq_of_mem_set hx with z | z
      · exact h3 x z
      · exact Or.inl z) (rmH_af r32).1 (rmH_af r32).2
  have e1 : aR (sI (tR (sI h 0 b (hI h 0 b + 1)) (hR h 1 b) R) 2 b (nI (L.length - 1))) (hR h 1 b) = R := by rw [aR_sI, aR_tR, if_pos rfl]
  have e2 : tR (sI (tR (sI h 0 b (hI h 0 b + 1)) (hR h 1 b) R) 2 b (nI (L.length - 1))) (hR h 1 b) ((aR (sI (tR (sI h 0 b (hI h 0 b + 1)) (hR h 1 b) R) 2 b (nI (L.length - 1))) (hR h 1 b)).set (nI (L.length - 1)).toNatClampNeg 0) = rmH h b (R.set (L.length - 1) 0) (nI (L.length - 1)) (hI h 0 b + 1) := by
    rw [e1, ec, tR_sI_tR]
    rfl
  rw [← e2] at hq
  have ix : ixIn (nI (L.length - 1)) (aR (sI (tR (sI h 0 b (hI h 0 b + 1)) (hR h 1 b) R) 2 b (nI (L.length - 1))) (hR h 1 b)).length := by
    rw [e1]; exact ix_of rfl (by omega) (by have := hA.2.2.2.2.1; omega)
  refine go ok_Jx4a65c_fastRemove_b59b0 ?_
  refine And.intro a1 ?_
  refine And.intro ⟨⟨a3, ix⟩, r32, Or.inl rfl⟩ ?_
  exact hq
theorem j_fastRemove (hA : AL h b L) {i : Nat} (hi : i < L.length) (r32 : 32 ≤ hR h 1 b) (q : ∀ h', AL h' b (L.eraseIdx i) → AF b h h' → hZ h' = hZ h → Q none h') : Con l w true (d + 1) HJx4a65c_fastRemove_b59b0 [vr b, vr (hR h 1 b), vi (nI i)] h 0 0 Q := by
  have l150 := hA.len
  have a1 := hA.1
  have a2 := hA.2.1
  have a3 := hA.2.2.1
  have a4 := hA.2.2.2.1
  have a6 := hA.2.2.2.2.2.1
  have a8 := hA.2.2.2.2.2.2.2
  have hrb : ¬ hR h 1 b = b := fun z => by rw [z] at a3; omega
  have el : (L.eraseIdx i).length = L.length - 1 := by rw [List.length_eraseIdx, if_pos hi]
  have ep : nI L.length - 1 = nI (L.length - 1) := nI_prd (by omega)
  have ec : (nI (L.length - 1)).toNatClampNeg = L.length - 1 := nI_clamp (by omega)
  have k34 := k_fr34 (l := l) (w := w) (d := d) hA hi r32 q
  refine Con.of ok_Jx4a65c_fastRemove_b59b0 (nones := [none]) rfl (by simp) ?_
  refine go ok_Jx4a65c_fastRemove_b59b0 ?_
  refine And.intro a1 ?_
  refine And.intro a1 ?_
  refine And.intro a1 ?_
  refine asAnd ?_
  rw [show hI (sI h 0 b (hI h 0 b + 1)) 2 b = nI L.length from a2, ep, nI_leI (by omega) (by omega)]
  refine And.intro (fun c => ?_) (fun c => ?_)
  · have hh := k34 (aR h (hR h 1 b)) rfl (fun j hj => by rw [gN_erase, if_pos (by omega)]; exact a6 j (by omega)) a8
    have e3 : tR (sI h 0 b (hI h 0 b + 1)) (hR h 1 b) (aR h (hR h 1 b)) = sI h 0 b (hI h 0 b + 1) := by
      show (hC h, up2 (hI h) 0 b (hI h 0 b + 1), hL h, hR h, aI h, aL h, up1 (aR h) (hR h 1 b) (aR h (hR h 1 b)), hZ h) = _
      have e4 : up1 (aR h) (hR h 1 b) (aR h (hR h 1 b)) = aR h := by
        funext x
        unfold up1
        split
        · rename_i z; rw [z]
        · rfl
      rw [e4]
      rfl
    rw [e3] at hh
    exact hh
  · have cs := cpy_self (s := aR h (hR h 1 b)) (i := i) (n := L.length - 1 - i) (by omega)
    have hh := k34 (cpy (aR h (hR h 1 b)) (aR h (hR h 1 b)) (i + 1) i (L.length - 1 - i)) cs.1 (fun j hj => by
      rw [cs.2.1 j, gN_erase]
      by_cases c1 : j < i
      · rw [if_pos c1, if_pos c1]; exact a6 j (by omega)
      · rw [if_neg c1, if_neg c1, if_pos (by omega)]; exact a6 (j + 1) (by omega)) (fun x hx => a8 x (cs.2.2 x hx))
    have s1 : nI (L.length - 1) - nI i = nI (L.length - 1 - i) := i32_sub_nI (a := i) (by omega)
    have s2 : (nI (L.length - 1) - nI i).toNatClampNeg = L.length - 1 - i := by rw [s1]; exact nI_clamp (by omega)
    have s3 : (nI i + 1).toNatClampNeg = i + 1 := by rw [nI_1]; exact nI_clamp (by omega)
    have s4 : (nI i).toNatClampNeg = i := nI_clamp (by omega)
    have hcp : cpy (aR h (hR h 1 b)) (aR h (hR h 1 b)) (nI i + 1).toNatClampNeg (nI i).toNatClampNeg (nI (L.length - 1) - nI i).toNatClampNeg = cpy (aR h (hR h 1 b)) (aR h (hR h 1 b)) (i + 1) i (L.length - 1 - i) := by rw [s2, s3, s4]
    rw [← hcp] at hh
    refine goN 10 ok_Jx4a65c_fastRemove_b59b0 ?_
    refine And.intro ⟨by rw [s1]; exact nI_pos' (by omega), nI_pos' (by omega), by rw [nI_1]; exact nI_pos' (by omega), r32⟩ ?_
    refine Or.inr ⟨a3, r32, a3, by show _ ≤ (aR h (hR h 1 b)).length; rw [s2, s3]; omega, by show _ ≤ (aR h (hR h 1 b)).length; rw [s2, s4]; omega, a8, ?_⟩
    exact hh
end J3

