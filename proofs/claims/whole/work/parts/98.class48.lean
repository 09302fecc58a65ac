/-! ===== the class: look ===== -/
section C48
variable {l : Launch} {w : WD} {d : Nat} {h h' h1 h2 A : AH} {Q : Option AV → AH → Prop} {S S' : SG} {G G' : GH} {b a : Nat} {L : List Nat}
theorem c_bring {s : Int64} {v : List Int64} (hs : aL h 53 = v) (hl : v.length = 3) (q : Q none (tL h 53 (v.map (fun z => z ||| s)))) : Con l w true d HX0_bring [vr 52, vl s] h 0 0 Q := by
  have lp : ∀ n i (u : List Int64), i + n = 3 → u.length = 3 → (∀ j, j < 3 → u.getD j 0 = if j < i then v.getD j 0 ||| s else v.getD j 0) → Ex l w true mX0_bring d Q 2 [some (vr 52), some (vl s), none, some (vi (nI i))] [] (tL h 53 u) 0 0 := by
    intro n
    induction n with
    | zero =>
      intro i u hi hu e
      have : i = 3 := by omega
      subst this
      have eu : u = v.map (fun z => z ||| s) := by
        apply List.ext_getElem (by rw [List.length_map, hu, hl])
        intro j h1 h2
        have := e j (by omega)
        rw [if_pos (by omega), List.getD_eq_getElem?_getD, List.getD_eq_getElem?_getD, List.getElem?_eq_getElem h1, List.getElem?_eq_getElem (by omega)] at this
        rw [List.getElem_map]
        exact this
      rw [eu]
      refine go ok_X0_bring ?_
      refine And.intro (fun c => ?_) (fun c => absurd c (by decide))
      refine go ok_X0_bring ?_
      exact q
    | succ n ih =>
      intro i u hi hu e
      have hi3 : i < 3 := by omega
      have ec : (nI i).toNatClampNeg = i := nI_clamp (by omega)
      have hh := ih (i + 1) (u.set i (u.getD i 0 ||| s)) (by omega) (by rw [List.length_set]; exact hu) (fun j hj => by
        rw [getD_set, e j hj, e i hi3]
        by_cases c : j = i
        · rw [if_pos ⟨c, by omega⟩, if_neg (by omega), if_pos (by omega), c]
        · rw [if_neg (fun z => c z.1)]
          by_cases c2 : j < i
          · rw [if_pos c2, if_pos (by omega)]
          · rw [if_neg c2, if_neg (by omega)])
      have eu : aL (tL h 53 u) 53 = u := by rw [aL_tL, if_pos rfl]
      have e2 : tL h 53 (u.set i (u.getD i 0 ||| s)) = tL (tL h 53 u) 53 ((aL (tL h 53 u) 53).set (nI i).toNatClampNeg ((aL (tL h 53 u) 53).getD (nI i).toNatClampNeg 0 ||| s)) := by
        rw [eu, ec]
        show (hC h, hI h, hL h, hR h, aI h, up1 (aL h) 53 _, aR h, hZ h) = (hC h, hI h, hL h, hR h, aI h, up1 (up1 (aL h) 53 u) 53 _, aR h, hZ h)
        have : ∀ t, up1 (up1 (aL h) 53 u) 53 t = up1 (aL h) 53 t := fun t => by
          funext y
          unfold up1
          split <;> rfl
        rw [this]
      rw [e2, ← nI_1] at hh
      refine Ex.lay (fun hy => ?_)
      refine go ok_X0_bring ?_
      refine asAnd ?_
      rw [show (3 : Int32) = nI 3 from rfl, nI_leI (by omega) (by omega)]
      refine And.intro (fun c => ?_) (fun c => ?_)
      · omega
      · refine go ok_X0_bring ?_
        refine And.intro ⟨yc53 hy, by rw [eu]; exact ix_of rfl (by omega) (by omega)⟩ ?_
        refine And.intro ⟨yc53 hy, by rw [eu]; exact ix_of rfl (by omega) (by omega)⟩ ?_
        exact hh
  have e0 : tL h 53 v = h := by
    rw [← hs]
    show (hC h, hI h, hL h, hR h, aI h, up1 (aL h) 53 (aL h 53), aR h, hZ h) = h
    have : up1 (aL h) 53 (aL h 53) = aL h := by
      funext y
      unfold up1
      split
      · rename_i z; rw [z]
      · rfl
    rw [this]
    rfl
  have hh := lp 3 0 v rfl hl (fun j hj => by rw [if_neg (by omega)])
  rw [e0] at hh
  refine Con.of ok_X0_bring (nones := [none]) rfl (by simp) ?_
  refine go ok_X0_bring ?_
  exact hh
theorem c_allow {r : RT} {a : Nat} (hr : RTc r a h) {k : Nat} (hk : k < 6) {x : Int32} (q : Q (some (vi (b2i (!decide (ltA r k = 0) && decide (ltA r k ≤ x))))) h) : Con l w true (d + 1) HX5_allow [vr a, vi (nI k), vi x] h 0 0 Q := by
  refine Con.of ok_X5_allow (nones := []) rfl (by simp) ?_
  refine go ok_X5_allow ?_
  refine And.intro hr.1 ?_
  refine Cal.z (c_letOf hr hk ?_)
  refine go ok_X5_allow ?_
  refine And.intro (fun c => ?_) (fun c => ?_)
  · rw [decide_eq_true c] at q
    refine go ok_X5_allow ?_
    refine And.intro (Or.inl rfl) ?_
    exact q
  · rw [decide_eq_false c] at q
    refine go ok_X5_allow ?_
    refine And.intro hr.1 ?_
    refine Cal.z (c_letOf hr hk ?_)
    refine go ok_X5_allow ?_
    refine And.intro (fun c2 => ?_) (fun c2 => ?_)
    · rw [decide_eq_false (by simpa using c2)] at q
      refine go ok_X5_allow ?_
      refine And.intro (Or.inl rfl) ?_
      exact q
    · rw [decide_eq_true (by simpa using c2)] at q
      refine go ok_X5_allow ?_
      refine And.intro (Or.inr rfl) ?_
      exact q
end C48

