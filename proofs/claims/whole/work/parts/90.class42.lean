/-! ===== the class: looks dropped ===== -/
section C42
variable {l : Launch} {w : WD} {d : Nat} {h h' h1 h2 : AH} {Q : Option AV → AH → Prop} {S S' : SG} {G G' : GH} {b a : Nat} {L : List Nat}
theorem AF.comp (x : AF b h h1) (hz : hZ h1 = hZ h) (y : AF b h1 h2) : AF b h h2 := by
  obtain ⟨x1, x2, x3, x4, x5, x6, x7, x8, x9⟩ := x
  obtain ⟨y1, y2, y3, y4, y5, y6, y7, y8, y9⟩ := y
  rw [hz] at y1 y2 y3 y4 y5 y6 y7 y8 y9
  refine ⟨fun n hn => (y1 n hn).trans (x1 n hn), fun f n hn h2 => (y2 f n hn h2).trans (x2 f n hn h2), fun f n hn => (y3 f n hn).trans (x3 f n hn), fun f n hn h2 => (y4 f n hn h2).trans (x4 f n hn h2), fun n hn => (y5 n hn).trans (x5 n hn), fun n hn => (y6 n hn).trans (x6 n hn), fun n hn h2 => (y7 n hn (fun z => ?_)).trans (x7 n hn h2), y8, ?_⟩
  · rcases x9 with e | e
    · rw [e] at z; exact h2 z
    · rw [e] at z; exact hn z.1
  · rcases y9 with e | e
    · rw [e]; exact x9
    · exact Or.inr e
theorem AF.self (b : Nat) (h : AH) : AF b h h := ⟨fun _ _ => rfl, fun _ _ _ _ => rfl, fun _ _ _ => rfl, fun _ _ _ _ => rfl, fun _ _ => rfl, fun _ _ => rfl, fun _ _ _ => rfl, Nat.le_refl _, Or.inl rfl⟩
/-- the list at an index on the way down -/
def dpL (L : List Nat) (a i : Nat) : List Nat := L.take i ++ (L.drop i).filter (fun x => !decide (x = a))
theorem dpL_0 : dpL L a 0 = L.filter (fun x => !decide (x = a)) := by unfold dpL; simp
theorem dpL_n : dpL L a L.length = L := by unfold dpL; simp
theorem dpL_get {i : Nat} (hi : i < L.length) : i < (dpL L a (i + 1)).length ∧ gN (dpL L a (i + 1)) i = gN L i := by
  unfold dpL
  refine ⟨by rw [List.length_append, List.length_take]; omega, ?_⟩
  show (L.take (i + 1) ++ _).getD i 0 = L.getD i 0
  rw [List.getD_eq_getElem?_getD, List.getElem?_append_left (by rw [List.length_take]; omega), List.getElem?_take, if_pos (by omega), ← List.getD_eq_getElem?_getD]
theorem dpL_s {i : Nat} (hi : i < L.length) : (gN L i = a → (dpL L a (i + 1)).eraseIdx i = dpL L a i) ∧ (¬ gN L i = a → dpL L a (i + 1) = dpL L a i) := by
  have e : L.drop i = gN L i :: L.drop (i + 1) := by
    rw [List.drop_eq_getElem_cons hi]
    congr 1
    show _ = L.getD i 0
    rw [List.getD_eq_getElem?_getD, List.getElem?_eq_getElem hi]; rfl
  have e2 : L.take (i + 1) = L.take i ++ [gN L i] := by
    rw [List.take_add_one, List.getElem?_eq_getElem hi]
    congr 1
    show [L[i]] = [L.getD i 0]
    rw [List.getD_eq_getElem?_getD, List.getElem?_eq_getElem hi]; rfl
  unfold dpL
  refine ⟨fun c => ?_, fun c => ?_⟩
  · rw [e, List.filter_cons, if_neg (by rw [decide_eq_true c]; decide), e2, List.append_assoc, List.eraseIdx_append_of_length_le (by rw [List.length_take]; omega), List.length_take, show i - min i L.length = 0 by omega]
    rfl
  · rw [e, List.filter_cons, if_pos (by rw [decide_eq_false c]; rfl), e2, List.append_assoc]
    rfl
theorem c_dropW (hA : AL h 39 L) (hL : ∀ x, x ∈ L → 88 ≤ x) (ha : 88 ≤ a) (q : ∀ h', AL h' 39 (L.filter (fun x => !decide (x = a))) → AF 39 h h' → hZ h' = hZ h → Q none h') : Con l w true (d + 3) HX7_drop [vr 38, vr a] h 0 0 Q := by
  have l150 := hA.len
  have lp : ∀ i h1, i ≤ L.length → AL h1 39 (dpL L a i) → AF 39 h h1 → hZ h1 = hZ h → Ex l w true mX7_drop (d + 3) Q 12 [some (vr 38), some (vr a), some (vi (nI i - 1))] [] h1 0 0 := by
    intro i
    induction i with
    | zero =>
      intro h1 hi hA1 haf hz
      rw [dpL_0] at hA1
      refine go ok_X7_drop ?_
      refine And.intro (fun c => ?_) (fun c => absurd c (by decide))
      refine go ok_X7_drop ?_
      exact q h1 hA1 haf hz
    | succ i ih =>
      intro h1 hi hA1 haf hz
      have ek : nI (i + 1) - 1 = nI i := nI_prd (n := i + 1) (by omega)
      rw [ek]
      obtain ⟨g1, g2⟩ := dpL_get (a := a) (show i < L.length by omega)
      obtain ⟨s1, s2⟩ := dpL_s (a := a) (show i < L.length by omega)
      have x88 : 88 ≤ gN L i := hL _ (by show L.getD i 0 ∈ L; rw [List.getD_eq_getElem?_getD, List.getElem?_eq_getElem (by omega)]; exact List.getElem_mem _)
      have hh : ∀ h2, AL h2 39 (dpL L a i) → AF 39 h h2 → hZ h2 = hZ h → Ex l w true mX7_drop (d + 3) Q 41 [some (vr 38), some (vr a), some (vi (nI i))] [] h2 0 0 := by
        intro h2 x1 x2 x3
        have := ih h2 (by omega) x1 x2 x3
        rw [Int32.sub_eq_add_neg] at this
        refine go ok_X7_drop ?_
        exact this
      refine go ok_X7_drop ?_
      refine And.intro (fun c => absurd c (nI_pos (by omega))) (fun c => ?_)
      refine go ok_X7_drop ?_
      refine And.intro hA1.1 ?_
      refine Cal.z (j_get hA1 g1 ?_)
      rw [g2]
      refine go ok_X7_drop ?_
      refine And.intro (Or.inr ⟨by unfold rOK; omega, by unfold rOK; omega⟩) ?_
      refine And.intro (fun c2 => ?_) (fun c2 => ?_)
      · rw [s2 c2] at hA1
        exact hh h1 hA1 haf hz
      · refine go ok_X7_drop ?_
        refine And.intro hA1.1 ?_
        refine Cal.z (j_remove hA1 g1 (fun r h2 hA2 af2 hz2 => ?_))
        rw [s1 c2] at hA2
        refine goN 1 ok_X7_drop ?_
        exact hh h2 hA2 (haf.comp hz af2) (hz2.trans hz)
  refine Con.of ok_X7_drop (nones := [none]) rfl (by simp) ?_
  refine go ok_X7_drop ?_
  refine And.intro hA.1 ?_
  refine Cal.z (j_size hA ?_)
  refine go ok_X7_drop ?_
  exact lp L.length h (Nat.le_refl _) (by rw [dpL_n]; exact hA) (AF.self 39 h) rfl
theorem c_dropP {p v : Nat} (hp : hC h p = 4) (ev : hR h 194 p = v) (hA : AL h v L) (hv : 88 ≤ v) (hL : ∀ x, x ∈ L → 88 ≤ x) (ha : 88 ≤ a) (hpz : p < hZ h) (q : ∀ h', AL h' v (L.filter (fun x => !decide (x = a))) → AF v h h' → hZ h' = hZ h → Q none h') : Con l w true (d + 3) HX2_drop [vr p, vr a] h 0 0 Q := by
  have l150 := hA.len
  have hpv : ¬ p = v := fun e => by rw [e, hA.1] at hp; omega
  have lp : ∀ i h1, i ≤ L.length → AL h1 v (dpL L a i) → AF v h h1 → hZ h1 = hZ h → Ex l w true mX2_drop (d + 3) Q 12 [some (vr p), some (vr a), some (vi (nI i - 1))] [] h1 0 0 := by
    intro i
    induction i with
    | zero =>
      intro h1 hi hA1 haf hz
      rw [dpL_0] at hA1
      refine go ok_X2_drop ?_
      refine And.intro (fun c => ?_) (fun c => absurd c (by decide))
      refine go ok_X2_drop ?_
      exact q h1 hA1 haf hz
    | succ i ih =>
      intro h1 hi hA1 haf hz
      have ek : nI (i + 1) - 1 = nI i := nI_prd (n := i + 1) (by omega)
      rw [ek]
      obtain ⟨g1, g2⟩ := dpL_get (a := a) (show i < L.length by omega)
      obtain ⟨s1, s2⟩ := dpL_s (a := a) (show i < L.length by omega)
      have x88 : 88 ≤ gN L i := hL _ (by show L.getD i 0 ∈ L; rw [List.getD_eq_getElem?_getD, List.getElem?_eq_getElem (by omega)]; exact List.getElem_mem _)
      have hh : ∀ h2, AL h2 v (dpL L a i) → AF v h h2 → hZ h2 = hZ h → Ex l w true mX2_drop (d + 3) Q 41 [some (vr p), some (vr a), some (vi (nI i))] [] h2 0 0 := by
        intro h2 x1 x2 x3
        have := ih h2 (by omega) x1 x2 x3
        rw [Int32.sub_eq_add_neg] at this
        refine go ok_X2_drop ?_
        exact this
      have p4 : hC h1 p = 4 := by rw [haf.1 p (by omega)]; exact hp
      have p5 : hR h1 194 p = v := by rw [haf.2.2.2.1 194 p (by omega) (by omega)]; exact ev
      have v1 : hC h1 (hR h1 194 p) = 1 := by rw [p5]; exact hA1.1
      refine go ok_X2_drop ?_
      refine And.intro (fun c => absurd c (nI_pos (by omega))) (fun c => ?_)
      refine go ok_X2_drop ?_
      refine And.intro p4 ?_
      refine And.intro v1 ?_
      refine asCal ?_
      rw [p5]
      refine Cal.z (j_get hA1 g1 ?_)
      rw [g2]
      refine go ok_X2_drop ?_
      refine And.intro (Or.inr ⟨by unfold rOK; omega, by unfold rOK; omega⟩) ?_
      refine And.intro (fun c2 => ?_) (fun c2 => ?_)
      · rw [s2 c2] at hA1
        exact hh h1 hA1 haf hz
      · refine go ok_X2_drop ?_
        refine And.intro p4 ?_
        refine And.intro v1 ?_
        refine asCal ?_
        rw [p5]
        refine Cal.z (j_remove hA1 g1 (fun r h2 hA2 af2 hz2 => ?_))
        rw [s1 c2] at hA2
        refine goN 1 ok_X2_drop ?_
        exact hh h2 hA2 (haf.comp hz af2) (hz2.trans hz)
  have v1 : hC h (hR h 194 p) = 1 := by rw [ev]; exact hA.1
  refine Con.of ok_X2_drop (nones := [none]) rfl (by simp) ?_
  refine go ok_X2_drop ?_
  refine And.intro hp ?_
  refine And.intro v1 ?_
  refine asCal ?_
  rw [ev]
  refine Cal.z (j_size hA ?_)
  refine go ok_X2_drop ?_
  exact lp L.length h (Nat.le_refl _) (by rw [dpL_n]; exact hA) (AF.self v h) rfl
end C42

