/-! ===== what the states keep: take, look ===== -/
section V2
variable {S : SG}
theorem pw_of {P : Nat → Nat → Prop} {L : List Nat} : (∀ i j, i < j → j < L.length → P (gN L i) (gN L j)) ↔ L.Pairwise P := by
  rw [List.pairwise_iff_getElem]
  have g : ∀ i (h : i < L.length), gN L i = L[i] := fun i h => by show L.getD i 0 = _; rw [List.getD_eq_getElem?_getD, List.getElem?_eq_getElem h]; rfl
  constructor
  · intro h i j hi hj hij
    have := h i j hij hj
    rwa [g i hi, g j hj] at this
  · intro h i j hij hj
    rw [g i (by omega), g j hj]
    exact h i j (by omega) hj hij
theorem gN_mem2 {L : List Nat} {i : Nat} (hi : i < L.length) : gN L i ∈ L := by
  show L.getD i 0 ∈ L
  rw [List.getD_eq_getElem?_getD, List.getElem?_eq_getElem hi]
  exact List.getElem_mem _
theorem mem_gN2 {L : List Nat} {x : Nat} (h : x ∈ L) : ∃ i, i < L.length ∧ gN L i = x := by
  obtain ⟨i, hi, e⟩ := List.mem_iff_getElem.mp h
  exact ⟨i, hi, by show L.getD i 0 = x; rw [List.getD_eq_getElem?_getD, List.getElem?_eq_getElem hi, e]; rfl⟩
theorem iv_take (hv : IV S) (l : Int32) : IV (takeF S l).2 := by
  unfold takeF
  split
  · exact hv
  · rename_i k ek
    split
    · exact hv
    · obtain ⟨⟨v1, v2, v3, v4, v5, v6, v7, v8, v9, v10⟩, vp⟩ := hv
      have hk : k < (gD S).length := (ixO_some ek).1
      have dd : ∀ i, doorD (sWh (sD S (holeD (gD S) k)) ((gWh S).filter (fun j => !decide (j = k)))) i = doorD S i := fun i => by
        show (gDs S).getD (pgD (holeD (gD S) k) i) 0 = _
        rw [(holeD_pg hk).1]; rfl
      have fm : ∀ i, i < ((gWh S).filter (fun j => !decide (j = k))).length → gN ((gWh S).filter (fun j => !decide (j = k))) i ∈ gWh S ∧ ¬ gN ((gWh S).filter (fun j => !decide (j = k))) i = k := fun i hi => by
        have := List.mem_filter.mp (gN_mem2 hi)
        exact ⟨this.1, by have z := this.2; simpa using z⟩
      refine ⟨⟨v1, v2, fun i hi => ?_, fun i j h1 h2 => ?_, v5, v6, v7, v8, fun i hi => ?_, ?_⟩, vp⟩
      · replace hi : i < (holeD (gD S) k).length := hi
        rw [holeD_len] at hi
        show lkOK (gNw S) (gDs S).length (lkD (holeD (gD S) k) i)
        by_cases c : i = k
        · subst c
          have y := v3 i hi
          rw [holeD_eq hk]
          have h31 : ¬ (3 : Int32) = 1 := by decide
          have h32 : ¬ (3 : Int32) = 2 := by decide
          exact ⟨y.1, y.2.1, Or.inr (Or.inr (Or.inr rfl)), ⟨show (0 : Int64) ≤ 0 by decide, show (0 : Int64) >>> 60 = 0 by decide⟩, y.2.2.2.2.1, fun _ => rfl, fun z => z.elim (fun z => absurd z h31) (fun z => absurd z h32)⟩
        · rw [holeD_ne c]; exact v3 i hi
      · replace h2 : j < (holeD (gD S) k).length := h2
        rw [holeD_len] at h2
        rw [dd, dd]
        show hrD (holeD (gD S) k) i ≤ hrD (holeD (gD S) k) j ∧ (_ → hrD (holeD (gD S) k) i < hrD (holeD (gD S) k) j)
        rw [(holeD_pg hk).2, (holeD_pg hk).2]
        exact v4 i j h1 h2
      · obtain ⟨m1, m2⟩ := fm i hi
        obtain ⟨t, ht, et⟩ := mem_gN2 m1
        have y := v9 t ht
        rw [et] at y
        show gN ((gWh S).filter (fun j => !decide (j = k))) i < (holeD (gD S) k).length ∧ kdD (holeD (gD S) k) (gN ((gWh S).filter (fun j => !decide (j = k))) i) = 0
        rw [holeD_len]
        unfold kdD
        rw [holeD_ne m2]
        exact y
      · have p1 : (gWh S).Pairwise (fun a b => pgD (gD S) a ≠ pgD (gD S) b) := pw_of.mp v10
        have p2 := p1.filter (fun j => !decide (j = k))
        have p3 := pw_of.mpr p2
        intro i j h1 h2
        show pgD (holeD (gD S) k) (gN ((gWh S).filter (fun j => !decide (j = k))) i) ≠ pgD (holeD (gD S) k) (gN ((gWh S).filter (fun j => !decide (j = k))) j)
        rw [(holeD_pg hk).1, (holeD_pg hk).1]
        exact p3 i j h1 h2
theorem iv_look (hv : IV S) (x k : Int32) (st : Int64) (dt : Int32) : IV (lookF S x k st dt).2 := by
  unfold lookF
  split
  · exact hv
  · rename_i p ep
    split
    · rename_i c
      split
      · rename_i c2
        split
        · exact hv
        · have hI := hv.1
          obtain ⟨⟨v1, v2, v3, v4, v5, v6, v7, v8, v9, v10⟩, vp⟩ := hv
          have hp : p < (gDs S).length := (ixO_some ep).1
          obtain ⟨dk, hdk, ed⟩ := v2 p hp
          have ec : ((gDs S).getD p 0).toNatClampNeg = dk := by rw [ed]; exact nI_clamp (by omega)
          rw [ec] at c2
          have el : (gD S ++ [newLk S p k st dt]).length = (gD S).length + 1 := by rw [List.length_append]; rfl
          have dl : ∀ i, i < (gD S).length → doorD (lookS S p k st dt) i = doorD S i := fun i hi => by
            show (gDs S).getD (pgD (gD S ++ [newLk S p k st dt]) i) 0 = _
            unfold doorD pgD
            rw [lkD_l hi]
          have de : doorD (lookS S p k st dt) (gD S).length = nI dk := by
            show (gDs S).getD (pgD (gD S ++ [newLk S p k st dt]) (gD S).length) 0 = _
            unfold pgD
            rw [lkD_e]
            exact ed
          have hl : ∀ i, i < (gD S).length → hrD (gD S ++ [newLk S p k st dt]) i = hrD (gD S) i := fun i hi => by unfold hrD; rw [lkD_l hi]
          have he : hrD (gD S ++ [newLk S p k st dt]) (gD S).length = gNw S := by unfold hrD; rw [lkD_e]; rfl
          have c0 : (0 : Int32).toInt = 0 := rfl
          have c1 : (1 : Int32).toInt = 1 := rfl
          have c3 : (3000 : Int32).toInt = 3000 := rfl
          have lt1 := Int32.le_iff_toInt_le.mp (v6.2.2.1 dk hdk).2.1
          have w1 := Int32.le_iff_toInt_le.mp v1.1
          have w2 := Int32.le_iff_toInt_le.mp v1.2
          have lr : ∀ n, n ≤ (gD S).length → letR S dk n = true → ∀ i, i < n → doorD S i = nI dk → hrD (gD S) i < gNw S := by
            intro n
            induction n with
            | zero => intro _ _ i hi; omega
            | succ n ih =>
              intro hn h i hi hd
              rw [letR, Bool.and_eq_true_iff] at h
              by_cases e : i = n
              · subst e
                have z := h.2
                rw [decide_eq_true hd, Bool.true_and] at z
                have z2 : ¬ gNw S - hrD (gD S) i < (gLt S).getD dk 0 := by simpa using z
                rw [Int32.lt_iff_toInt_lt] at z2
                have hb := hI.hr (show i < (gD S).length by omega)
                have es : (gNw S - hrD (gD S) i).toInt = (gNw S).toInt - (hrD (gD S) i).toInt := by
                  rw [Int32.toInt_sub]
                  apply Int.bmod_eq_of_le <;> omega
                rw [Int32.lt_iff_toInt_lt]
                replace lt1 : (1 : Int32).toInt ≤ ((gLt S).getD dk 0).toInt := lt1
                omega
              · exact ih (by omega) h.1 i (by omega) hd
          refine ⟨⟨v1, v2, fun i hi => ?_, fun i j h1 h2 => ?_, ?_, v6, v7, v8, fun i hi => ?_, fun i j h1 h2 => ?_⟩, vp⟩
          · replace hi : i < (gD S ++ [newLk S p k st dt]).length := hi
            show lkOK (gNw S) (gDs S).length (lkD (gD S ++ [newLk S p k st dt]) i)
            by_cases e : i = (gD S).length
            · rw [e, lkD_e]
              have kk : k = 0 ∨ k = 1 ∨ k = 2 := by
                obtain ⟨n, hn, en⟩ := natOf (n := 2) (by decide) c.1.1 c.1.2
                have : n = 0 ∨ n = 1 ∨ n = 2 := by omega
                rcases this with z | z | z
                · left; rw [en, z]; rfl
                · right; left; rw [en, z]; rfl
                · right; right; rw [en, z]; rfl
              refine ⟨hp, ⟨v1.1, Int32.le_refl _⟩, ?_, ?_, ?_, ?_, ?_⟩
              · show k = 0 ∨ k = 1 ∨ k = 2 ∨ k = 3
                rcases kk with z | z | z
                · exact Or.inl z
                · exact Or.inr (Or.inl z)
                · exact Or.inr (Or.inr (Or.inl z))
              · show 0 ≤ (if k = 0 then st else 0) ∧ (if k = 0 then st else 0) >>> 60 = 0
                by_cases z : k = 0
                · rw [if_pos z]; exact ⟨(c.2 z).1, (c.2 z).2.1⟩
                · rw [if_neg z]; exact ⟨by decide, by decide⟩
              · show -1 ≤ (if k = 0 then dt else -1) ∧ (if k = 0 then dt else -1) ≤ gNw S
                by_cases z : k = 0
                · rw [if_pos z]; exact (c.2 z).2.2
                · rw [if_neg z]; exact ⟨by decide, Int32.le_trans (by decide) v1.1⟩
              · intro z
                show (if k = 0 then st else 0) = 0
                rw [if_neg (show ¬ k = 0 from z)]
              · intro z
                show (if k = 0 then dt else -1) = -1
                rw [if_neg (fun y => by
                  rcases z with z | z
                  · exact absurd (y.symm.trans (show k = 1 from z)) (by decide)
                  · exact absurd (y.symm.trans (show k = 2 from z)) (by decide))]
            · rw [lkD_l (by omega)]; exact v3 i (by omega)
          · replace h2 : j < (gD S ++ [newLk S p k st dt]).length := h2
            show hrD (gD S ++ [newLk S p k st dt]) i ≤ hrD (gD S ++ [newLk S p k st dt]) j ∧ (doorD (lookS S p k st dt) i = doorD (lookS S p k st dt) j → hrD (gD S ++ [newLk S p k st dt]) i < hrD (gD S ++ [newLk S p k st dt]) j)
            rw [hl i (by omega), dl i (by omega)]
            by_cases e : j = (gD S).length
            · rw [e, he, de]
              exact ⟨(v3 i (by omega)).2.1.2, fun z => lr _ (Nat.le_refl _) c2 i (by omega) z⟩
            · rw [hl j (by omega), dl j (by omega)]
              exact v4 i j h1 (by omega)
          · show ((gHs S).map _).length = 3
            rw [List.length_map]; exact v5
          · have y := v9 i hi
            show gN (gWh S) i < (gD S ++ [newLk S p k st dt]).length ∧ kdD (gD S ++ [newLk S p k st dt]) (gN (gWh S) i) = 0
            unfold kdD
            rw [lkD_l y.1]
            exact ⟨by omega, y.2⟩
          · have yi := (v9 i (by have : j < (gWh S).length := h2; omega)).1
            have yj := (v9 j h2).1
            show pgD (gD S ++ [newLk S p k st dt]) (gN (gWh S) i) ≠ pgD (gD S ++ [newLk S p k st dt]) (gN (gWh S) j)
            unfold pgD
            rw [lkD_l yi, lkD_l yj]
            exact v10 i j h1 h2
      · exact hv
    · exact hv
end V2

