/-! ===== the JDK's lists: remove, clear; what a list's change leaves ===== -/
section J4
variable {l : Launch} {w : WD} {d : Nat} {h h' : AH} {Q : Option AV → AH → Prop} {b c : Nat} {L : List Nat} {S S' : SG} {G G' : GH}
theorem AL.r32 (hA : AL h b L) (hl : ¬ L.length = 0) : 32 ≤ hR h 1 b := by
  rcases hA.2.2.2.2.2.2.1 with z | z
  · have := hA.2.2.2.1; rw [z.2] at this; exact absurd (Nat.le_zero.mp this) hl
  · exact z
theorem j_remove (hA : AL h b L) {i : Nat} (hi : i < L.length) (q : ∀ r h', AL h' b (L.eraseIdx i) → AF b h h' → hZ h' = hZ h → Q (some (vr r)) h') : Con l w true (d + 2) HJx4a65c_remove_915e3 [vr b, vi (nI i)] h 0 0 Q := by
  have l150 := hA.len
  have a1 := hA.1
  have a3 := hA.2.2.1
  have a4 := hA.2.2.2.1
  refine Con.of ok_Jx4a65c_remove_915e3 (nones := [none, none]) rfl (by simp) ?_
  refine go ok_Jx4a65c_remove_915e3 ?_
  refine And.intro a1 ?_
  refine asCal ?_
  rw [hA.2.1]
  refine Cal.z (j_checkIndex hi (by omega) ?_)
  refine go ok_Jx4a65c_remove_915e3 ?_
  refine And.intro a1 ?_
  refine And.intro ⟨a3, ix_of rfl (show i < (aR h (hR h 1 b)).length by omega) (by have := hA.2.2.2.2.1; omega)⟩ ?_
  refine And.intro a1 ?_
  refine Cal.z (j_fastRemove hA hi (hA.r32 (by omega)) (fun h' hA' haf hz => ?_))
  refine go ok_Jx4a65c_remove_915e3 ?_
  exact q _ h' hA' haf hz
theorem k_clr (hA : AL h b L) (q : ∀ h', AL h' b [] → AF b h h' → hZ h' = hZ h → Q none h') : ∀ (k : Nat) (R : List Nat), k ≤ L.length → R.length = (aR h (hR h 1 b)).length → (∀ x, x ∈ R → eOK h x) → 32 ≤ hR h 1 b → Ex l w true mJx4a65c_clear_da8c8 d Q 27 [some (vr b), some (vr (hR h 1 b)), some (vi (nI L.length)), some (vi (nI (L.length - k)))] [] (rmH h b R 0 (hI h 0 b + 1)) 0 0 := by
  have l150 := hA.len
  have a4 := hA.2.2.2.1
  have a5 := hA.2.2.2.2.1
  have a3 := hA.2.2.1
  intro k
  induction k with
  | zero =>
    intro R hk h1 h2 r32
    have hq := q (rmH h b R (nI ([] : List Nat).length) (hI h 0 b + 1)) (rmH_al hA r32 h1 (Nat.zero_le _) (fun i hi => absurd hi (Nat.not_lt_zero _)) h2) (rmH_af r32).1 (rmH_af r32).2
    refine go ok_Jx4a65c_clear_da8c8 ?_
    refine asAnd ?_
    rw [Nat.sub_zero, nI_leI (by omega) (by omega)]
    refine And.intro (fun c => ?_) (fun c => ?_)
    · refine go ok_Jx4a65c_clear_da8c8 ?_
      exact hq
    · omega
  | succ k ih =>
    intro R hk h1 h2 r32
    have e1 : aR (rmH h b R 0 (hI h 0 b + 1)) (hR h 1 b) = R := by unfold rmH; rw [aR_tR, if_pos rfl]
    have ec : (nI (L.length - (k + 1))).toNatClampNeg = L.length - (k + 1) := nI_clamp (by omega)
    have e2 : tR (rmH h b R 0 (hI h 0 b + 1)) (hR h 1 b) ((aR (rmH h b R 0 (hI h 0 b + 1)) (hR h 1 b)).set (nI (L.length - (k + 1))).toNatClampNeg 0) = rmH h b (R.set (L.length - (k + 1)) 0) 0 (hI h 0 b + 1) := by
      rw [e1, ec]
      unfold rmH
      rw [tR_tR]
    have hh := ih (R.set (L.length - (k + 1)) 0) (by omega) (by rw [List.length_set]; exact h1) (fun x hx => by
      rcases List.mem_or_eq_of_mem_set hx with z | z
      · exact h2 x z
      · exact Or.inl z) r32
    rw [← e2, show L.length - k = L.length - (k + 1) + 1 by omega, ← nI_1] at hh
    have ix : ixIn (nI (L.length - (k + 1))) (aR (rmH h b R 0 (hI h 0 b + 1)) (hR h 1 b)).length := by
      rw [e1]; exact ix_of rfl (by omega) (by omega)
    refine go ok_Jx4a65c_clear_da8c8 ?_
    refine asAnd ?_
    rw [nI_leI (by omega) (by omega)]
    refine And.intro (fun c => ?_) (fun c => ?_)
    · omega
    · refine go ok_Jx4a65c_clear_da8c8 ?_
      refine And.intro ⟨⟨a3, ix⟩, r32, Or.inl rfl⟩ ?_
      exact hh
theorem j_clear (hA : AL h b L) (q : ∀ h', AL h' b [] → AF b h h' → hZ h' = hZ h → Q none h') : Con l w true d HJx4a65c_clear_da8c8 [vr b] h 0 0 Q := by
  have a1 := hA.1
  by_cases hL0 : L.length = 0
  · have hq := q (sI (sI h 0 b (hI h 0 b + 1)) 2 b 0) ⟨hA.1, by rw [hI_sI, if_pos ⟨rfl, rfl⟩]; rfl, hA.2.2.1, Nat.zero_le _, hA.2.2.2.2.1, fun i hi => absurd hi (Nat.not_lt_zero _), hA.2.2.2.2.2.2.1, hA.2.2.2.2.2.2.2⟩ ⟨fun _ _ => rfl, fun f x _ h2 => by rw [hI_sI, if_neg (fun z => h2 ⟨Or.inr z.1, z.2⟩), hI_sI, if_neg (fun z => h2 ⟨Or.inl z.1, z.2⟩)], fun _ _ _ => rfl, fun _ _ _ _ => rfl, fun _ _ => rfl, fun _ _ => rfl, fun _ _ _ => rfl, Nat.le_refl _, Or.inl rfl⟩ rfl
    refine Con.of ok_Jx4a65c_clear_da8c8 (nones := [none, none, none]) rfl (by simp) ?_
    refine go ok_Jx4a65c_clear_da8c8 ?_
    refine And.intro a1 ?_
    refine And.intro a1 ?_
    refine And.intro a1 ?_
    refine And.intro a1 ?_
    refine And.intro a1 ?_
    refine go ok_Jx4a65c_clear_da8c8 ?_
    refine asAnd ?_
    rw [show hI (sI h 0 b (hI h 0 b + 1)) 2 b = nI L.length from hA.2.1, hL0]
    refine And.intro (fun c => ?_) (fun c => absurd c (by decide))
    refine go ok_Jx4a65c_clear_da8c8 ?_
    exact hq
  · have r32 := hA.r32 hL0
    have hh := k_clr (l := l) (w := w) (d := d) hA q L.length (aR h (hR h 1 b)) (Nat.le_refl _) rfl hA.2.2.2.2.2.2.2 r32
    have e3 : rmH h b (aR h (hR h 1 b)) 0 (hI h 0 b + 1) = sI (sI h 0 b (hI h 0 b + 1)) 2 b 0 := by
      unfold rmH
      show (hC h, up2 (up2 (hI h) 0 b (hI h 0 b + 1)) 2 b 0, hL h, hR h, aI h, aL h, up1 (aR h) (hR h 1 b) (aR h (hR h 1 b)), hZ h) = _
      have e4 : up1 (aR h) (hR h 1 b) (aR h (hR h 1 b)) = aR h := by
        funext x
        unfold up1
        split
        · rename_i z; rw [z]
        · rfl
      rw [e4]
      rfl
    rw [e3, Nat.sub_self, ← hA.2.1] at hh
    refine Con.of ok_Jx4a65c_clear_da8c8 (nones := [none, none, none]) rfl (by simp) ?_
    refine go ok_Jx4a65c_clear_da8c8 ?_
    refine And.intro a1 ?_
    refine And.intro a1 ?_
    refine And.intro a1 ?_
    refine And.intro a1 ?_
    refine And.intro a1 ?_
    exact hh
theorem AL.af (hA : AL h c L) (af : AF b h h') (hne : ¬ c = b) (ho : ∀ n, ¬ hC h n = 0 → n < hZ h) (hrow : ¬ (hR h 1 c = hR h 1 b ∧ 32 ≤ hR h 1 c)) : AL h' c L := by
  obtain ⟨a1, a2, a3, a4, a5, a6, a7, a8⟩ := hA
  obtain ⟨x1, x2, x3, x4, x5, x6, x7, x8, x9⟩ := af
  have n1 : ¬ c = hZ h := by have := ho c (by omega); omega
  have n2 : ¬ hR h 1 c = hZ h := by have := ho (hR h 1 c) (by omega); omega
  have e1 : hR h' 1 c = hR h 1 c := x4 1 c n1 (fun z => hne z.2)
  unfold AL
  rw [x1 c n1, x2 2 c n1 (fun z => hne z.2), e1, x1 _ n2, x7 _ n2 hrow]
  refine ⟨a1, a2, a3, a4, a5, a6, a7, fun r hr => ?_⟩
  rcases a8 r hr with z | z
  · exact Or.inl z
  · exact Or.inr ⟨z.1, by rw [x1 r (by have := ho r (by omega); omega)]; exact z.2⟩
end J4

