/-! ===== the reference: look, take, told, pieces, view, count, right, sure, alike, state, hours, part, wipe ===== -/
theorem Lay.ti {h : AH} (hy : Lay h) {a j : Nat} {x : Int32} : Lay (tI h a ((aI h a).set j x)) := by
  refine ⟨hy.1, hy.2.1, hy.2.2.1, fun q hq => ?_, hy.2.2.2.2⟩
  rw [aI_tI]
  split
  · rename_i e; rw [List.length_set, ← e]; exact hy.2.2.2.1 q hq
  · exact hy.2.2.2.1 q hq
theorem Lay.tl {h : AH} (hy : Lay h) {a j : Nat} {x : Int64} : Lay (tL h a ((aL h a).set j x)) := by
  refine ⟨hy.1, hy.2.1, hy.2.2.1, hy.2.2.2.1, fun q hq => ?_⟩
  rw [aL_tL]
  split
  · rename_i e; rw [List.length_set, ← e]; exact hy.2.2.2.2 q hq
  · exact hy.2.2.2.2 q hq
theorem Lay.si {h : AH} (hy : Lay h) {f a : Nat} {x : Int32} : Lay (sI h f a x) := hy
theorem Lay.sl {h : AH} (hy : Lay h) {f a : Nat} {x : Int64} : Lay (sL h f a x) := hy
section R8
variable {l : Launch} {w : WD} {d : Nat} {h : AH} {Q : Option AV → AH → Prop} {S : SG}
theorem lkD_snoc {D : List LK} {x : LK} {i : Nat} : lkD (D ++ [x]) i = if i < D.length then lkD D i else if i = D.length then x else (0, 0, 0, 0, 0) := getD_snoc D x _ i
theorem getD_snoc_l {α : Type} {L : List α} {v d : α} {i : Nat} (hi : i < L.length) : (L ++ [v]).getD i d = L.getD i d := by rw [getD_snoc, if_pos hi]
theorem getD_snoc_e {α : Type} {L : List α} {v d : α} : (L ++ [v]).getD L.length d = v := by rw [getD_snoc, if_neg (by omega), if_pos rfl]
/-- the reference's cells with a look more -/
theorem M3.snoc {D : List LK} {h h' : AH} {x : LK} (hM : M3 D h) (hy : Lay h) (hD : ¬ D.length = 100) (hx : x.1 < 12) (e0 : hI h' 643 62 = nI D.length + 1) (e1 : aI h' 64 = (aI h 64).set D.length (nI x.1)) (e2 : aI h' 65 = (aI h 65).set D.length x.2.1) (e3 : aI h' 66 = (aI h 66).set D.length x.2.2.1) (e4 : aL h' 67 = (aL h 67).set D.length x.2.2.2.1) (e5 : aI h' 68 = (aI h 68).set D.length x.2.2.2.2) : M3 (D ++ [x]) h' := by
  have hl := hM.2.1
  refine ⟨by rw [e0, nI_1, List.length_append]; rfl, by simp; omega, fun i hi => ?_⟩
  rw [List.length_append, List.length_singleton] at hi
  rw [e1, e2, e3, e4, e5, getD_set, getD_set, getD_set, getD_set, getD_set, yn64 hy, yn65 hy, yn66 hy, yn67 hy, yn68 hy]
  by_cases c : i = D.length
  · subst c
    have e : lkD (D ++ [x]) D.length = x := getD_snoc_e
    rw [if_pos ⟨rfl, by omega⟩, if_pos ⟨rfl, by omega⟩, if_pos ⟨rfl, by omega⟩, if_pos ⟨rfl, by omega⟩, if_pos ⟨rfl, by omega⟩, pgD, hrD, kdD, stD, dtD, e]
    exact ⟨rfl, rfl, rfl, rfl, rfl, hx⟩
  · have e : lkD (D ++ [x]) i = lkD D i := getD_snoc_l (by omega)
    rw [if_neg (fun z => c z.1), if_neg (fun z => c z.1), if_neg (fun z => c z.1), if_neg (fun z => c z.1), if_neg (fun z => c z.1), pgD, hrD, kdD, stD, dtD, e]
    exact hM.2.2 i (by omega)
def orN (L : List Int64) (v : Int64) : Nat → List Int64
  | 0 => L
  | i + 1 => (orN L v i).set i ((orN L v i).getD i 0 ||| v)
theorem orN_len (L : List Int64) (v : Int64) : ∀ i, (orN L v i).length = L.length
  | 0 => rfl
  | i + 1 => by rw [orN, List.length_set, orN_len L v i]
theorem orN3 {L : List Int64} (hL : L.length = 3) (v : Int64) : orN L v 3 = L.map (fun z => z ||| v) := by
  match L, hL with
  | [a, b, c], _ => rfl
theorem r_look_loop {hf : List Int64 → AH} {v : Int64} {L : List Int64} (hL : L.length = 3) (hh : ∀ L', aL (hf L') 69 = L' ∧ (aL (hf L') 67).getD (hI (hf L') 643 62).toNatClampNeg 0 = v ∧ hI (hf L') 643 62 = hI (hf L) 643 62 ∧ ∀ L'', tL (hf L') 69 L'' = hf L'')
    (h6 : ∃ n, n < 100 ∧ hI (hf L) 643 62 = nI n) {a1 a2 a5 : Int32} {a3 : Int64}
    (q : Q (some (vi (hI (hf L) 643 62 + 1 - 1))) (sI (hf (orN L v 3)) 643 62 (hI (hf L) 643 62 + 1))) : ∀ n i, i + n = 3 → Ex l w true mX9_look d Q 167 [some (vr 62), some (vi a1), some (vi a2), some (vl a3), none, some (vi a5), some (vi (nI i))] [] (hf (orN L v i)) 0 0 := by
  obtain ⟨n0, hn0, e0⟩ := h6
  intro n
  induction n with
  | zero =>
    intro i hi
    have : i = 3 := by omega
    subst this
    refine go ok_X9_look ?_
    refine And.intro (fun c => ?_) (fun c => absurd c (by decide))
    refine go ok_X9_look ?_
    rw [← (hh (orN L v 3)).2.2.1] at q
    exact q
  | succ n ih =>
    intro i hi
    refine Ex.lay (fun hy => ?_)
    refine go ok_X9_look ?_
    refine And.intro (fun c => ?_) (fun c => ?_)
    · replace c : nI 3 ≤ nI i := c; rw [nI_leI (by omega) (by omega)] at c
      omega
    · refine go ok_X9_look ?_
      refine And.intro (ix69 hy (k := i) rfl (by omega)) ?_
      refine asAnd ?_
      refine And.intro (ix67 hy (k := n0) ((hh _).2.2.1.trans e0) (by omega)) ?_
      refine asAnd ?_
      refine And.intro (ix69 hy (k := i) rfl (by omega)) ?_
      have hh2 := ih (i + 1) (by omega)
      rw [← nI_1] at hh2
      have e : tL (hf (orN L v i)) 69 ((aL (hf (orN L v i)) 69).set (nI i).toNatClampNeg ((aL (hf (orN L v i)) 69).getD (nI i).toNatClampNeg 0 ||| (aL (hf (orN L v i)) 67).getD (hI (hf (orN L v i)) 643 62).toNatClampNeg 0)) = hf (orN L v (i + 1)) := by
        rw [(hh _).2.2.2, (hh _).1, (hh _).2.1, nI_clamp (by omega)]; rfl
      rw [← e] at hh2
      exact hh2
theorem tL_self (h : AH) (a : Nat) : tL h a (aL h a) = h := by
  unfold tL
  rw [up1_self]
  rfl
theorem tL_tL (h : AH) (a : Nat) (v v' : List Int64) : tL (tL h a v) a v' = tL h a v' := by
  unfold tL
  simp only [hC, hI, hL, hR, aI, aL, aR, hZ]
  rw [up1_up1]
theorem r_look (hM : RM S h) (hv : Inv S) {p k : Int32} {st : Int64} {dt : Int32} (q : ∀ h', RM (lookF S p k st dt).2 h' → OM h h' → Q (some (vi (lookF S p k st dt).1)) h') : Con l w true (d + 2) HX9_look [vr 62, vi p, vi k, vl st, vi dt] h 0 0 Q := by
  have hD := hM.m3.2.1
  have h12 := hM.m2.2.1
  refine Con.of ok_X9_look (nones := [none]) rfl (by simp) ?_
  refine Ex.lay (fun hy => ?_)
  refine go ok_X9_look ?_
  refine Cal.z (k_noPage hM.m2 (fun e => ?_) (fun j hj ej e => ?_))
  · refine go ok_X9_look ?_
    refine And.intro (fun c => absurd c (by decide)) (fun c => ?_)
    refine go ok_X9_look ?_
    rw [lookF, e] at q
    exact q _ hM (OM.rf h)
  · subst ej
    rw [lookF, e] at q
    dsimp only at q
    refine go ok_X9_look ?_
    refine And.intro (fun c => ?_) (fun c => absurd c (by decide))
    -- where it can't be
    have k60 : ¬ lookOK (gNw S) k st dt → Ex l w true mX9_look (d + 2) Q 60 [some (vr 62), some (vi (nI j)), some (vi k), some (vl st), none, some (vi dt), none] [] h 0 0 := by
      intro c
      refine go ok_X9_look ?_
      rw [if_neg c] at q
      exact q _ hM (OM.rf h)
    have k64 : lookOK (gNw S) k st dt → Ex l w true mX9_look (d + 2) Q 64 [some (vr 62), some (vi (nI j)), some (vi k), some (vl st), none, some (vi dt), none] [] h 0 0 := by
      intro c
      rw [if_pos c] at q
      obtain ⟨dd, hdd, edd⟩ := hv.door hj
      rw [edd, nI_clamp (by omega)] at q
      refine go ok_X9_look ?_
      refine And.intro (ix63 hy rfl (by omega)) ?_
      refine asCal ?_
      rw [nI_clamp (by omega), hM.m2.2.2 j hj, edd]
      refine Cal.z (r_isLet hM hv hdd ?_)
      refine go ok_X9_look ?_
      refine And.intro (fun c2 => ?_) (fun c2 => ?_)
      · rw [if_pos (b2i_ne.mp c2)] at q
        refine go ok_X9_look ?_
        refine asAnd ?_
        rw [hM.m3.1]
        refine And.intro (fun c3 => ?_) (fun c3 => ?_)
        · replace c3 : ¬ nI (gD S).length = nI 100 := c3
          rw [nI_eq (by omega) (by omega)] at c3
          rw [if_neg c3] at q
          have eD : (nI (gD S).length).toNatClampNeg = (gD S).length := nI_clamp (by omega)
          have fin : ∀ (st' : Int64) (dt' : Int32), st' = (if k = 0 then st else 0) → dt' = (if k = 0 then dt else -1) → Ex l w true mX9_look (d + 2) Q 167 [some (vr 62), some (vi (nI j)), some (vi k), some (vl st), none, some (vi dt), some (vi 0)] [] (tI (tL (tI (tI (tI h 64 ((aI h 64).set (hI h 643 62).toNatClampNeg (nI j))) 65 ((aI h 65).set (hI h 643 62).toNatClampNeg (hI h 640 62))) 66 ((aI h 66).set (hI h 643 62).toNatClampNeg k)) 67 ((aL h 67).set (hI h 643 62).toNatClampNeg st')) 68 ((aI h 68).set (hI h 643 62).toNatClampNeg dt')) 0 0 := by
            intro st' dt' est edt
            rw [hM.m3.1, eD, hM.1]
            have h69 : aL h 69 = gHs S := hM.hs
            have hl3 : (gHs S).length = 3 := hv.2.2.2.2.1
            have hx : lookS S j k st dt = sHs (sD S (gD S ++ [(j, gNw S, k, st', dt')])) ((gHs S).map (fun v => v ||| st')) := by rw [lookS, newLk, est, edt]
            rw [hx] at q
            have hh := r_look_loop (l := l) (w := w) (d := d + 2) (Q := Q) (a1 := nI j) (a2 := k) (a5 := dt) (a3 := st) (hf := fun L' => tL (tI (tL (tI (tI (tI h 64 ((aI h 64).set (gD S).length (nI j))) 65 ((aI h 65).set (gD S).length (gNw S))) 66 ((aI h 66).set (gD S).length k)) 67 ((aL h 67).set (gD S).length st')) 68 ((aI h 68).set (gD S).length dt')) 69 L') (v := st') (L := aL h 69) (by rw [h69]; exact hl3)
              (fun L' => ⟨rfl, by
                show ((aL h 67).set (gD S).length st').getD (hI h 643 62).toNatClampNeg 0 = st'
                rw [hM.m3.1, eD, getD_set, if_pos ⟨rfl, by rw [yn67 hy]; omega⟩], rfl, fun L'' => tL_tL _ _ _ _⟩) ⟨(gD S).length, by omega, hM.m3.1⟩ ?_ 3 0 (by omega)
            · rw [show ∀ x : AH, aL x 69 = aL h 69 → tL x 69 (orN (aL h 69) st' 0) = x from fun x hx => by show tL x 69 (aL h 69) = x; rw [← hx]; exact tL_self x 69] at hh
              · exact hh
              · rfl
            · rw [h69, orN3 hl3]
              refine Qv (q _ ?_ ?_) ?_
              · refine ⟨hM.1, hM.m2, ?_, rfl, hM.m5, hM.m6, hM.fl, hM.m8, hM.m9⟩
                exact M3.snoc (x := (j, gNw S, k, st', dt')) hM.m3 hy c3 (show j < 12 by omega) (by show hI h 643 62 + 1 = _; rw [hM.m3.1]) rfl rfl rfl rfl rfl
              · exact OM.s (OM.tl (OM.t (OM.tl (OM.t (OM.t (OM.t (OM.rf h) (by decide)) (by decide)) (by decide)) (by decide)) (by decide)) (by decide)) (by decide)
              · show nI (gD S).length = hI h 643 62 + 1 - 1
                rw [hM.m3.1, i32_add_sub]
          refine go ok_X9_look ?_
          refine And.intro (jx64 hy hM.m3.1 (by omega)) ?_
          refine asAnd ?_
          refine And.intro (jx65 hy.ti hM.m3.1 (by omega)) ?_
          refine asAnd ?_
          refine And.intro (jx66 hy.ti.ti hM.m3.1 (by omega)) ?_
          refine And.intro (fun c4 => ?_) (fun c4 => ?_)
          · refine go ok_X9_look ?_
            refine And.intro (ix67 hy.ti.ti.ti hM.m3.1 (by omega)) ?_
            refine And.intro (fun c5 => ?_) (fun c5 => ?_)
            · refine go ok_X9_look ?_
              refine And.intro (jx68 hy.ti.ti.ti.tl hM.m3.1 (by omega)) ?_
              exact fin 0 (-1) (if_neg c4).symm (if_neg c4).symm
            · exact absurd c5 c4
          · refine go ok_X9_look ?_
            refine And.intro (ix67 hy.ti.ti.ti hM.m3.1 (by omega)) ?_
            refine And.intro (fun c5 => ?_) (fun c5 => ?_)
            · exact absurd c4 c5
            · refine go ok_X9_look ?_
              refine And.intro (jx68 hy.ti.ti.ti.tl hM.m3.1 (by omega)) ?_
              exact fin st dt (if_pos c4).symm (if_pos c4).symm
        · replace c3 : nI (gD S).length = nI 100 := c3
          rw [nI_eq (by omega) (by omega)] at c3
          refine go ok_X9_look ?_
          rw [if_pos c3] at q
          exact q _ hM (OM.rf h)
      · rw [if_neg (by rw [b2i_eq.mp c2]; decide)] at q
        refine go ok_X9_look ?_
        exact q _ hM (OM.rf h)
    refine go ok_X9_look ?_
    refine Cal.z (k_in (lo := 0) (hi := 2) rfl rfl (rfl) (fun c => ?_) (fun c => ?_))
    · refine go ok_X9_look ?_
      refine And.intro (fun c2 => absurd c2 (by decide)) (fun c2 => ?_)
      refine go ok_X9_look ?_
      refine And.intro (fun c3 => ?_) (fun c3 => ?_)
      · exact k64 ⟨c, fun z => absurd z c3⟩
      · refine go ok_X9_look ?_
        refine And.intro (fun c4 => ?_) (fun c4 => ?_)
        · exact k60 (fun z => by have := (lg_cmp_lt _ _).mp c4; exact absurd (z.2 c3).1 (by simpa using this))
        · have c4' : ¬ st < 0 := fun z => c4 ((lg_cmp_lt _ _).mpr z)
          refine go ok_X9_look ?_
          refine And.intro (fun c5 => ?_) (fun c5 => ?_)
          · exact k60 (fun z => c5 ((lg_cmp_eq _ _).mpr (z.2 c3).2.1))
          · have c5' := (lg_cmp_eq _ _).mp c5
            refine go ok_X9_look ?_
            refine Cal.z (k_in (lo := -1) (hi := gNw S) rfl rfl (by rw [hM.1]) (fun c => ?_) (fun c => ?_))
            · refine go ok_X9_look ?_
              refine And.intro (fun c6 => ?_) (fun c6 => absurd c6 (by decide))
              exact k64 ⟨by assumption, fun _ => ⟨by simpa using c4', c5', c⟩⟩
            · refine go ok_X9_look ?_
              refine And.intro (fun c6 => absurd c6 (by decide)) (fun c6 => ?_)
              exact k60 (fun z => c (z.2 c3).2.2)
    · refine go ok_X9_look ?_
      refine And.intro (fun c2 => ?_) (fun c2 => absurd c2 (by decide))
      exact k60 (fun z => c z.1)
end R8

