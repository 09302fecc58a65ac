/-! ===== the class: the planner's search runs ===== -/
def KP (S : SG) (G : GH) (g h : AH) : Prop := RC S G h ∧ OX g h
section C19
variable {l : Launch} {w : WD} {d : Nat} {g h : AH} {Q : Option AV → AH → Prop} {S : SG} {G : GH}
theorem KP.t (k : KP S G g h) {a : Nat} {v : List Int32} (ha : 43 ≤ a ∧ a ≤ 51) : KP S G g (tI h a v) := ⟨k.1.ti (by omega), k.2.tr (OX.ti (by omega))⟩
theorem KP.s (k : KP S G g h) {f a : Nat} {v : Int32} (hf : 256 ≤ f ∧ f ≤ 319) : KP S G g (sI h f a v) := ⟨k.1.si (Or.inr hf), k.2.tr (OX.si (by omega))⟩
variable {N : Nat} {nm dr wt lt : Nat → Nat} {nt : Nat}
theorem c_keepIf {x : Int32} (q1 : hI h 265 42 < x → Q none (tI (sI h 265 42 x) 51 (aI h 50))) (q2 : x ≤ hI h 265 42 → Q none h) : Con l w true (d + 1) HX3_keepIfBetter [vr 42, vi x] h 0 0 Q := by
  refine Con.of ok_X3_keepIfBetter (nones := []) rfl (by simp) ?_
  refine Ex.lay (fun hy => ?_)
  refine go ok_X3_keepIfBetter ?_
  refine asAnd ?_
  refine And.intro (fun c => ?_) (fun c => ?_)
  · refine go ok_X3_keepIfBetter ?_
    exact q2 c
  · have c' : hI h 265 42 < x := by rw [Int32.lt_iff_toInt_lt]; rw [Int32.le_iff_toInt_le] at c; omega
    have q := q1 c'
    rw [← cpy_all (yn50 hy) (yn51 hy)] at q
    refine go ok_X3_keepIfBetter ?_
    refine And.intro ⟨by decide, by decide, by decide, by decide⟩ (Or.inl ⟨yc50 hy, yc51 hy, ?_, ?_, ?_⟩)
    · show 0 + 12 ≤ (aI h 50).length
      rw [yn50 hy]
      decide
    · show 0 + 12 ≤ (aI h 51).length
      rw [yn51 hy]
      decide
    · exact q
end C19
section C19b
variable (l : Launch) (w : WD) (S : SG) (G : GH) (g : AH) (N : Nat) (nm dr wt lt : Nat → Nat) (nt : Nat)
def SRC (n a : Nat) : Prop := ∀ (D : Nat) (Q : Option AV → AH → Prop) (h : AH) (P : Nat → Nat) (C : (Nat → Nat) → Prop) (o : Option (Nat → Nat)) (gone : Int32), 2 * n + 2 ≤ D → KP S G g h → PLA N nm dr wt lt nt h → PST N nm dr wt lt nt P a o h → (∀ j, j < N → bt gone j = gnP N dr P a j) → vldR N dr wt lt P a →
  SIc (fun P => vldR N dr wt lt P nt) (fun P => wsm N wt P nt) nt C o → Ahd nt C a P →
  (∀ h' o', KP S G g h' → PLA N nm dr wt lt nt h' → PST N nm dr wt lt nt P a o' h' → SIc (fun P => vldR N dr wt lt P nt) (fun P => wsm N wt P nt) nt (fun P' => C P' ∨ AgP a P P') o' → Q none h') →
  Con l w true D HX3_search [vr 42, vi (nI a), vi gone, vi (nI (wsm N wt P a))] h 0 0 Q
variable {l w S G g N nm dr wt lt nt}
variable {d : Nat} {Q : Option AV → AH → Prop} {h : AH}
theorem c_with {n a : Nat} (ih : SRC l w S G g N nm dr wt lt nt n (a + 1)) (hd : 2 * n + 2 ≤ d) (ha : a < nt) {P : Nat → Nat} {C : (Nat → Nat) → Prop} {o : Option (Nat → Nat)} {gone : Int32} {i : Nat} (hi : i < N) (hK : KP S G g h) (hp : PLA N nm dr wt lt nt h) (hs : PST N nm dr wt lt nt P a o h) (hg : ∀ j, j < N → bt gone j = gnP N dr P a j) (hv : vldR N dr wt lt P a) (ok : okR N dr wt lt (upF P a i) a) (hc : SIc (fun P => vldR N dr wt lt P nt) (fun P => wsm N wt P nt) nt C o) (hA : Ahd nt C (a + 1) (upF P a i))
    (q : ∀ h' o', KP S G g h' → PLA N nm dr wt lt nt h' → PST N nm dr wt lt nt P a o' h' → SIc (fun P => vldR N dr wt lt P nt) (fun P => wsm N wt P nt) nt (fun P' => C P' ∨ AgP (a + 1) (upF P a i) P') o' → Q none h') : Con l w true (d + 1) HX3_searchWith [vr 42, vi (nI i), vi (nI a), vi gone, vi (nI (wsm N wt P a))] h 0 0 Q := by
  have h7 := hp.1.2
  have n3 := hp.2.1.2.2
  obtain ⟨i1, i2, i3, i4, i5⟩ := hp.2.2.1 i hi
  obtain ⟨t1, t2⟩ := hp.2.2.2.2.1 (dr i) i3
  have f1 := hs.1 (dr i) i3
  refine Con.of ok_X3_searchWith (nones := [none, none]) rfl (by simp) ?_
  refine Ex.lay (fun hy => ?_)
  refine go ok_X3_searchWith ?_
  refine And.intro (ix44 hy rfl (by omega)) ?_
  refine asAnd ?_
  rw [nI_clamp (n := i) (by omega), i2]
  refine And.intro (ix48 hy rfl (by omega)) ?_
  refine asAnd ?_
  rw [nI_clamp (n := dr i) (by omega), f1]
  refine And.intro (ix47 hy rfl (by omega)) ?_
  refine asAnd ?_
  rw [t1]
  refine And.intro (jx48 hy rfl (by omega)) ?_
  refine And.intro (show ixI h 43 _ from ix43 hy rfl (by omega)) ?_
  refine And.intro (show jxI h 50 _ from jx50 hy rfl (by omega)) ?_
  refine asCal ?_
  rw [nI_clamp (n := dr i) (by omega), nI_clamp (n := i) (by omega), show (aI (tI h 48 _) 43).getD i 0 = nI (nm i) from i1, nI_clamp (n := a) (by omega), nI_add, show aI (tI h 48 _) 50 = aI h 50 from rfl]
  generalize hr8 : (aI h 48).set (dr i) (nI (a + lt (dr i))) = r8
  generalize hr0 : (aI h 50).set a (nI (nm i)) = r0
  have hp2 : PLA N nm dr wt lt nt (tI (tI h 48 r8) 50 r0) := hp
  refine Cal.z (c_upTo hp2 hi (fun msk hm => ?_))
  have hw : wsm N wt P a + wt i = wsm N wt (upF P a i) (a + 1) := by
    rw [wsm, upF_e, if_pos hi]
    congr 1
    exact wsm_cong N wt a (fun j hj => (upF_n (by omega)).symm)
  refine go ok_X3_searchWith ?_
  refine And.intro (show ixI h 45 _ from ix45 hy rfl (by omega)) ?_
  refine asCal ?_
  rw [nI_clamp (n := i) (by omega), show (aI (tI (tI h 48 r8) 50 r0) 45).getD i 0 = nI (wt i) from i4, nI_add, nI_1, hw]
  refine Cal.z (ih d _ _ (upF P a i) C o _ hd ((hK.t (by decide)).t (by decide)) hp2 ?_ ?_ (vldR_up hv (Or.inr ⟨hi, ok⟩)) hc hA (fun h' o' hK' hp' hs' hc' => ?_))
  · refine ⟨fun k hk => ?_, fun k hk => ⟨fun hka => ?_, fun hkn => ?_⟩, hs.2.2.1, hs.2.2.2⟩
    · show r8.getD k 0 = _
      rw [← hr8, getD_set, ffP, upF_e, yn48 hy]
      by_cases e : k = dr i
      · rw [if_pos ⟨e, i3⟩, if_pos ⟨hi, e.symm⟩, e]
      · rw [if_neg (fun z => e z.1), if_neg (fun z => e z.2.symm), hs.1 k hk]
        exact congrArg nI (ffP_cong a (fun j hj => (upF_n (by omega)).symm))
    · show r0.getD k 0 = _
      rw [← hr0, getD_set, yn50 hy]
      by_cases e : k = a
      · rw [if_pos ⟨e, by omega⟩, e, upF_e, tvP, if_pos hi]
      · rw [if_neg (fun z => e z.1), upF_n e]
        exact (hs.2.1 k hk).1 (by omega)
    · show r0.getD k 0 = _
      rw [← hr0, getD_set, if_neg (fun z => by omega)]
      exact (hs.2.1 k hk).2 hkn
  · intro j hj
    rw [b_or, hg j hj, hm j hj, gnP, upF_e, decide_eq_true hi, Bool.true_and]
    congr 1
    exact gnP_cong a (fun k hk => (upF_n (by omega)).symm)
  · refine Ex.lay (fun hy2 => ?_)
    refine go ok_X3_searchWith ?_
    refine And.intro (jx48 hy2 rfl (by omega)) ?_
    rw [nI_clamp (n := dr i) (by omega)]
    refine q _ o' (hK'.t (by decide)) hp' ⟨fun k hk => ?_, fun k hk => ⟨fun hka => ?_, (hs'.2.1 k hk).2⟩, hs'.2.2⟩ hc'
    · show ((aI h' 48).set (dr i) (nI (ffP N dr lt P a (dr i)))).getD k 0 = _
      rw [getD_set, yn48 hy2]
      by_cases e : k = dr i
      · rw [if_pos ⟨e, i3⟩, e]
      · rw [if_neg (fun z => e z.1), hs'.1 k hk, ffP, upF_e, if_neg (fun z => e z.2.symm)]
        exact congrArg nI (ffP_cong a (fun j hj => upF_n (by omega)))
    · have := (hs'.2.1 k hk).1 (by omega)
      rw [upF_n (by omega)] at this
      exact this
theorem ffP_bd {P : Nat → Nat} {k : Nat} : ∀ a, ffP N dr lt P a k ≤ a + lt k
  | 0 => Nat.zero_le _
  | a + 1 => by
    have := ffP_bd (P := P) (k := k) a
    rw [ffP]
    split <;> omega
theorem c_searchA : ∀ n a, a + n = nt → SRC l w S G g N nm dr wt lt nt n a := by
  intro n
  induction n with
  | zero =>
    intro a ha D Q h P C o gone hD hK hp hs hg hv hc hA q
    have : a = nt := by omega
    subst this
    obtain ⟨d, rfl⟩ : ∃ d, D = d + 2 := ⟨D - 2, by omega⟩
    obtain ⟨n1, n2, n3⟩ := hp.2.1
    have hW : ∀ B, wsm N wt B a ≤ 36000000 := fun B => Nat.le_trans (wsm_le (W := 3000000) (fun m hm => (hp.2.2.1 m hm).2.2.2.2) a) (Nat.mul_le_mul_right 3000000 n3)
    refine Con.of ok_X3_search (nones := [none]) rfl (by simp) ?_
    refine go ok_X3_search ?_
    refine asAnd ?_
    rw [n1, nI_leI (by omega) (by omega)]
    refine And.intro (fun c => ?_) (fun c => ?_)
    · refine go ok_X3_search ?_
      refine Cal.z (c_keepIf (fun c2 => ?_) (fun c2 => ?_))
      · have fin : SIc (fun P => vldR N dr wt lt P a) (fun P => wsm N wt P a) a (fun P' => C P' ∨ AgP a P P') (some P) := by
          cases o with
          | none => exact hc.leaf0 (vldR_ext N dr wt lt a) hv
          | some B =>
            refine hc.leaf1 (vldR_ext N dr wt lt a) hv ?_
            rw [hs.2.2.1, bsI, nI_ltI (by have := hW B; omega) (by have := hW P; omega)] at c2
            exact c2
        refine go ok_X3_search ?_
        refine q _ (some P) ((hK.s (by decide)).t (by decide)) hp ⟨hs.1, hs.2.1, rfl, fun B e k hk => ?_⟩ fin
        injection e with e
        subst e
        show (aI h 50).getD k 0 = _
        by_cases c3 : k < a
        · rw [if_pos c3]; exact (hs.2.1 k hk).1 c3
        · rw [if_neg c3]; exact (hs.2.1 k hk).2 (by omega)
      · refine go ok_X3_search ?_
        refine q _ o hK hp hs ?_
        cases o with
        | none =>
          exfalso
          rw [hs.2.2.1] at c2
          replace c2 : nI (wsm N wt P a) ≤ -1 := c2
          have := nI_pos (n := wsm N wt P a) (by have := hW P; omega)
          rw [Int32.lt_iff_toInt_lt] at this
          rw [Int32.le_iff_toInt_le] at c2
          simp at this c2
          omega
        | some B =>
          refine hc.leaf2 (vldR_ext N dr wt lt a) hA ?_
          rw [hs.2.2.1, bsI, nI_leI (by have := hW P; omega) (by have := hW B; omega)] at c2
          exact c2
    · omega
  | succ n ih =>
    intro a ha D Q h P C o gone hD hK hp hs hg hv hc hA q
    obtain ⟨n1, n2, n3⟩ := hp.2.1
    obtain ⟨d, rfl⟩ : ∃ d, D = d + 3 := ⟨D - 3, by omega⟩
    have h7 := hp.1.2
    have hW : ∀ B, wsm N wt B nt ≤ 36000000 := fun B => Nat.le_trans (wsm_le (W := 3000000) (fun m hm => (hp.2.2.1 m hm).2.2.2.2) nt) (Nat.mul_le_mul_right 3000000 n3)
    have hW2 : wsm N wt P a ≤ 36000000 := Nat.le_trans (wsm_le (W := 3000000) (fun m hm => (hp.2.2.1 m hm).2.2.2.2) a) (Nat.mul_le_mul_right 3000000 (by omega : a ≤ 12))
    have lp : ∀ m i h' o', i + m = N → KP S G g h' → PLA N nm dr wt lt nt h' → PST N nm dr wt lt nt P a o' h' → SIc (fun P => vldR N dr wt lt P nt) (fun P => wsm N wt P nt) nt (Cup C a P i) o' → Ex l w true mX3_search (d + 3) Q 39 [some (vr 42), some (vi (nI a)), some (vi gone), some (vi (nI (wsm N wt P a))), some (vi (nI i))] [] h' 0 0 := by
      intro m
      induction m with
      | zero =>
        intro i h' o' hi hK' hp' hs' hc'
        have : i = N := by omega
        subst this
        have hw : wsm i wt P a = wsm i wt (upF P a i) (a + 1) := by
          rw [wsm, upF_e, if_neg (by omega), Nat.add_zero]
          exact wsm_cong i wt a (fun j hj => (upF_n (by omega)).symm)
        refine Ex.lay (fun hy => ?_)
        refine go ok_X3_search ?_
        refine asAnd ?_
        rw [show hI h' 266 42 = nI i from hp'.1.1, nI_leI (by omega) (by omega)]
        refine And.intro (fun c => ?_) (fun c => ?_)
        · refine go ok_X3_search ?_
          refine And.intro (jx50 hy rfl (by omega)) ?_
          refine asCal ?_
          rw [nI_clamp (n := a) (by omega), nI_1, hw]
          refine Cal.z (ih (a + 1) (by omega) (d + 2) _ _ (upF P a i) (Cup C a P i) o' _ (by omega) (hK'.t (by decide)) hp' ⟨fun k hk => ?_, fun k hk => ⟨fun hka => ?_, fun hkn => ?_⟩, hs'.2.2⟩ ?_ (vldR_up hv (Or.inl rfl)) hc' (hA.up (by omega) i) (fun h2 o2 hK2 hp2 hs2 hc2 => ?_))
          · show (aI h' 48).getD k 0 = _
            rw [ffP, upF_e, if_neg (fun z => by omega), hs'.1 k hk]
            exact congrArg nI (ffP_cong a (fun j hj => (upF_n (by omega)).symm))
          · show ((aI h' 50).set a (-1)).getD k 0 = _
            rw [getD_set, yn50 hy]
            by_cases e : k = a
            · rw [if_pos ⟨e, by omega⟩, e, upF_e, tvP, if_neg (by omega)]
            · rw [if_neg (fun z => e z.1), upF_n e]
              exact (hs'.2.1 k hk).1 (by omega)
          · show ((aI h' 50).set a (-1)).getD k 0 = _
            rw [getD_set, if_neg (fun z => by omega)]
            exact (hs'.2.1 k hk).2 hkn
          · intro j hj
            rw [hg j hj, gnP, upF_e, decide_eq_false (by omega : ¬ i < i), Bool.false_and, Bool.or_false]
            exact gnP_cong a (fun k hk => (upF_n (by omega)).symm)
          · refine go ok_X3_search ?_
            refine q h2 o2 hK2 hp2 ⟨fun k hk => ?_, fun k hk => ⟨fun hka => ?_, (hs2.2.1 k hk).2⟩, hs2.2.2⟩ (hc2.next.all (fun P' hv' => by rcases hv' a (by omega) with z | z <;> omega))
            · rw [hs2.1 k hk, ffP, upF_e, if_neg (fun z => by omega)]
              exact congrArg nI (ffP_cong a (fun j hj => upF_n (by omega)))
            · have := (hs2.2.1 k hk).1 (by omega)
              rw [upF_n (by omega)] at this
              exact this
        · omega
      | succ m ihm =>
        intro i h' o' hi hK' hp' hs' hc'
        obtain ⟨i1, i2, i3, i4, i5⟩ := hp'.2.2.1 i (by omega)
        have nx : ∀ h2 o2, KP S G g h2 → PLA N nm dr wt lt nt h2 → PST N nm dr wt lt nt P a o2 h2 → SIc (fun P => vldR N dr wt lt P nt) (fun P => wsm N wt P nt) nt (Cup C a P (i + 1)) o2 → Ex l w true mX3_search (d + 3) Q 92 [some (vr 42), some (vi (nI a)), some (vi gone), some (vi (nI (wsm N wt P a))), some (vi (nI i))] [] h2 0 0 := by
          intro h2 o2 x1 x2 x3 x4
          have hh := ihm (i + 1) h2 o2 (by omega) x1 x2 x3 x4
          rw [← nI_1] at hh
          refine go ok_X3_search ?_
          exact hh
        have sk : ¬ okR N dr wt lt (upF P a i) a → Ex l w true mX3_search (d + 3) Q 92 [some (vr 42), some (vi (nI a)), some (vi gone), some (vi (nI (wsm N wt P a))), some (vi (nI i))] [] h' 0 0 := fun z => nx h' o' hK' hp' hs' (hc'.skip (fun P' hv' hg' e => z (vldR_ok (by omega) hv' hg' e (by omega))))
        rw [okR_iff (by omega)] at sk
        refine Ex.lay (fun hy => ?_)
        refine go ok_X3_search ?_
        refine asAnd ?_
        rw [show hI h' 266 42 = nI N from hp'.1.1, nI_leI (by omega) (by omega)]
        refine And.intro (fun c => ?_) (fun c => ?_)
        · omega
        · refine go ok_X3_search ?_
          refine asAnd ?_
          rw [b_get (by omega), hg i (by omega)]
          refine And.intro (fun c2 => ?_) (fun c2 => ?_)
          · exact sk (fun z => c2 z.1)
          · refine go ok_X3_search ?_
            refine And.intro (ix44 hy rfl (by omega)) ?_
            refine asAnd ?_
            rw [nI_clamp (n := i) (by omega), i2]
            refine And.intro (ix48 hy rfl (by omega)) ?_
            refine asAnd ?_
            rw [nI_clamp (n := dr i) (by omega), hs'.1 (dr i) i3, nI_ltI (by omega) (by have := ffP_bd (N := N) (dr := dr) (lt := lt) (P := P) (k := dr i) a; have := (hp.2.2.2.2.1 (dr i) i3).2; omega)]
            refine And.intro (fun c3 => ?_) (fun c3 => ?_)
            · exact sk (fun z => by omega)
            · refine go ok_X3_search ?_
              refine Cal.z (c_behind hp' (by omega) hg (fun j h1 h2 h3 h4 => ?_) (fun hb => ?_))
              · refine go ok_X3_search ?_
                refine And.intro (fun c4 => ?_) (fun c4 => absurd c4 (by decide))
                exact sk (fun z => by have := z.2.2 j h1 h2 h3; omega)
              · refine go ok_X3_search ?_
                refine And.intro (fun c4 => absurd c4 (by decide)) (fun c4 => ?_)
                refine go ok_X3_search ?_
                refine Cal.z (c_with (ih (a + 1) (by omega)) (by omega) (by omega) (by omega) hK' hp' hs' hg hv ((okR_iff (by omega)).mpr ⟨c2, by omega, hb⟩) hc' (hA.up (by omega) i) (fun h2 o2 hK2 hp2 hs2 hc2 => ?_))
                exact nx h2 o2 hK2 hp2 hs2 hc2.next
    refine Con.of ok_X3_search (nones := [none]) rfl (by simp) ?_
    refine go ok_X3_search ?_
    refine asAnd ?_
    rw [n1, nI_leI (by omega) (by omega)]
    refine And.intro (fun c => ?_) (fun c => ?_)
    · omega
    · refine go ok_X3_search ?_
      refine asAnd ?_
      rw [show (12 : Int32) = nI 12 from rfl, nI_ltI (by omega) (by omega)]
      refine And.intro (fun c2 => ?_) (fun c2 => ?_)
      · refine go ok_X3_search ?_
        refine Cal.z (c_mostFrom hp (by omega) (ff := fun k => ffP N dr lt P a k) (fun k hk => ⟨hs.1 k hk, by have := ffP_bd (N := N) (dr := dr) (lt := lt) (P := P) (k := k) a; have := (hp.2.2.2.2.1 k hk).2; show ffP N dr lt P a k ≤ 200; omega⟩) hg (fun r bw b1 b2 b3 => ?_))
        have hm := grB_le dr wt (W := 3000000) (gn := fun j => gnP N dr P a j) bw (rmP lt (fun k => ffP N dr lt P a k) nt a) (nt - a) (fun x hx => (hp.2.2.1 x ((b2 x).mp hx)).2.2.2.2)
        generalize hmv : grB dr wt (fun j => gnP N dr P a j) bw (rmP lt (fun k => ffP N dr lt P a k) nt a) (nt - a) = mv at *
        have hm2 : mv ≤ 21000000 := Nat.le_trans hm (by rw [b1]; exact Nat.mul_le_mul_right 3000000 h7)
        refine go ok_X3_search ?_
        refine asAnd ?_
        rw [nI_add, show hI (tI h 49 r) 265 42 = bsI N wt nt o from hs.2.2.1]
        refine And.intro (fun c3 => ?_) (fun c3 => ?_)
        · have hh := lp N 0 (tI h 49 r) o (by omega) (hK.t (by decide)) hp hs hc.zero
          refine go ok_X3_search ?_
          exact hh
        · refine go ok_X3_search ?_
          refine q _ o (hK.t (by decide)) hp hs ?_
          cases o with
          | none =>
            exfalso
            refine c3 ?_
            show (-1 : Int32) < nI _
            have := nI_pos (n := wsm N wt P a + mv) (by omega)
            rw [Int32.lt_iff_toInt_lt] at this ⊢
            simp at this ⊢
            omega
          | some B =>
            refine hc.prune hA (fun P' hv' hg' => ?_)
            have hub := most_ub (a := a) (by omega) hv' hg' b2 b3 hp.2.2.2.2.2
            rw [hmv] at hub
            rw [bsI, nI_ltI (by have := hW B; omega) (by omega)] at c3
            show wsm N wt P' nt ≤ wsm N wt B nt
            omega
      · omega
end C19b

