/-! ===== the class: the plan ===== -/
section C21
variable {l : Launch} {w : WD} {d : Nat} {g h : AH} {Q : Option AV → AH → Prop} {S : SG} {G : GH} {p : Nat}
theorem RC.pn (hc : RC S G h) (hp : p < (gDs S).length) : hC h (gN (gPa G) p) = 4 ∧ hI h 192 (gN (gPa G) p) = nI p ∧ hI h 193 (gN (gPa G) p) = (gDs S).getD p 0 := ⟨(hc.pgs.2.2 p hp).1.1, (hc.pgs.2.2 p hp).2.1, (hc.pgs.2.2 p hp).2.2.1⟩
theorem c_worthAt (hc : RC S G h) (hv : Inv S) (hp : p < (gDs S).length) (q : Q (some (vi (wtS S p))) h) : Con l w true (d + 5) HX2_worthAt [vr (gN (gPa G) p), vi (gNw S), vr (hR h 583 32)] h 0 0 Q := by
  have hpv := hc.pv hp
  unfold wtS at q
  refine Con.of ok_X2_worthAt (nones := [none]) rfl (by simp) ?_
  refine go ok_X2_worthAt ?_
  refine And.intro hpv ?_
  refine Cal.z (c_lastView hc hp ?_)
  unfold lstL
  by_cases c : (vws (gD S) p).length = 0
  · rw [if_pos c] at q ⊢
    refine go ok_X2_worthAt ?_
    refine asAnd ?_
    refine And.intro (fun c2 => absurd rfl c2) (fun c2 => ?_)
    refine go ok_X2_worthAt ?_
    exact q
  · rw [if_neg c] at q ⊢
    obtain ⟨b1, -, -⟩ := vws_in (D := gD S) (p := p) (i := (vws (gD S) p).length - 1) (by omega)
    have hn0 := hc.la0 b1
    have hl := hc.lks.2 _ b1
    refine go ok_X2_worthAt ?_
    refine asAnd ?_
    refine And.intro (fun c2 => ?_) (fun c2 => absurd c2 hn0)
    refine go ok_X2_worthAt ?_
    refine And.intro hpv ?_
    refine Cal.z (c_changeRate hc hv hp ?_)
    refine go ok_X2_worthAt ?_
    refine And.intro hl.1.1 ?_
    have e : (if (0 : Int32) < rateN (gD S) (gCl S) (vws (gD S) p) then rateN (gD S) (gCl S) (vws (gD S) p) else 0) * (gNw S - hrD (gD S) (gN (vws (gD S) p) ((vws (gD S) p).length - 1))) = if rateN (gD S) (gCl S) (vws (gD S) p) < 0 then 0 else rateN (gD S) (gCl S) (vws (gD S) p) * (gNw S - hrD (gD S) (gN (vws (gD S) p) ((vws (gD S) p).length - 1))) := by
      rcases hv.rate p with e | ⟨n, hn, e⟩
      · rw [e, if_neg (by decide), if_pos (by decide), Int32.zero_mul]
      · rw [e, if_neg (nI_pos (by omega))]
        congr 1
        by_cases z : n = 0
        · subst z; rfl
        · rw [if_pos]
          show nI 0 < nI n
          rw [nI_ltI (by omega) (by omega)]
          omega
    rw [← e, ← hl.2.2.2.1] at q
    exact q
def fPl (S : SG) (cl : List Nat) (p : Nat) : List Nat := if okq S p = true then cl ++ [p] else cl
theorem c_offer (hK : KP S G g h) (hv : Inv S) {cl : List Nat} (hp : p < (gDs S).length) (hcl : cl.length ≤ 6) (hc : PLC S cl h) (hr : PLR S h) (q : ∀ h', KP S G g h' → PLR S h' → PLC S (fPl S cl p) h' → hR h' 583 32 = hR h 583 32 → Q none h') : Con l w true (d + 1) HX3_offer [vr 42, vr (gN (gPa G) p), vi (wtS S p), vr (hR h 583 32)] h 0 0 Q := by
  obtain ⟨a1, a2, a3⟩ := hK.1.pn hp
  obtain ⟨wn, hwn, ew⟩ := hv.worth p
  obtain ⟨k, hk, ek⟩ := hv.door hp
  have hrt := hK.1.rt
  have hok : ltA (gRt S) k ≠ 0 ↔ okq S p = true := by
    unfold ltA okq
    rw [ek, nI_clamp (by omega)]
    obtain ⟨t1, t2, t3⟩ := hv.lts hk
    have t1' : (gRt S).2.1.getD k 0 = nI (ltS S k) := t1
    show (if (gNv S).getD k 0 = 0 then (gRt S).2.1.getD k 0 else 0) ≠ 0 ↔ _
    by_cases c : (gNv S).getD k 0 = 0
    · rw [if_pos c, decide_eq_true c, t1']
      refine ⟨fun _ => rfl, fun _ z => ?_⟩
      replace z : nI (ltS S k) = nI 0 := z
      rw [nI_eq (by omega) (by omega)] at z
      omega
    · rw [if_neg c, decide_eq_false c]
      exact ⟨fun z => absurd rfl z, fun z => by cases z⟩
  obtain ⟨b1, b2, b3, bw, c1, c2, c3, c4⟩ := hc
  refine Con.of ok_X3_offer (nones := [none]) rfl (by simp) ?_
  refine Ex.lay (fun hy => ?_)
  refine go ok_X3_offer ?_
  refine asAnd ?_
  rw [b1, show (7 : Int32) = nI 7 from rfl, nI_leI (by omega) (by omega)]
  refine And.intro (fun c => ?_) (fun c => ?_)
  · omega
  · refine go ok_X3_offer ?_
    refine And.intro a1 ?_
    refine And.intro hrt.1 ?_
    refine asCal ?_
    rw [a3, ek]
    refine Cal.z (c_letOf hrt hk ?_)
    refine go ok_X3_offer ?_
    refine And.intro (fun c5 => ?_) (fun c5 => ?_)
    · have hokp := hok.mp c5
      have q : ∀ h', KP S G g h' → PLR S h' → PLC S (cl ++ [p]) h' → hR h' 583 32 = hR h 583 32 → Q none h' := fun h' x1 x2 x3 => q h' x1 x2 (by unfold fPl; rw [if_pos hokp]; exact x3)
      have eN : (hI h 266 42).toNatClampNeg = cl.length := by rw [b1]; exact nI_clamp (by omega)
      have w1 : ∀ i, i < cl.length → wtN S (cl ++ [p]) i = wtN S cl i := fun i hi => by unfold wtN; rw [gN_app, if_pos hi]
      have w2 : wtN S (cl ++ [p]) cl.length = wn := by unfold wtN; rw [gN_app, if_neg (by omega), if_pos rfl, ew, nI_clamp (by omega)]
      have d1 : ∀ i, i < cl.length → drS S (cl ++ [p]) i = drS S cl i := fun i hi => by unfold drS; rw [gN_app, if_pos hi]
      have d2 : drS S (cl ++ [p]) cl.length = k := by unfold drS; rw [gN_app, if_neg (by omega), if_pos rfl, ek, nI_clamp (by omega)]
      have gnb : ∀ k, k < cl.length → gN bw k < cl.length := fun k hk => (c2 _).mp (gN_mem (by omega))
      generalize hR3 : (aI h 43).set cl.length (nI p) = R3
      generalize hR4 : (aI h 44).set cl.length (nI k) = R4
      generalize hR5 : (aI h 45).set cl.length (nI wn) = R5
      have r3 : ∀ i, i < cl.length + 1 → R3.getD i 0 = nI (gN (cl ++ [p]) i) := fun i hi => by
        rw [← hR3, getD_set, yn43 hy, gN_app]
        by_cases e : i = cl.length
        · rw [if_pos ⟨e, by omega⟩, if_neg (by omega), if_pos e]
        · rw [if_neg (fun z => e z.1), if_pos (by omega)]; exact (b3 i (by omega)).2.1
      have r4 : ∀ i, i < cl.length + 1 → R4.getD i 0 = nI (drS S (cl ++ [p]) i) := fun i hi => by
        rw [← hR4, getD_set, yn44 hy]
        by_cases e : i = cl.length
        · rw [if_pos ⟨e, by omega⟩, e, d2]
        · rw [if_neg (fun z => e z.1), d1 i (by omega)]; exact (b3 i (by omega)).2.2.1
      have r5 : ∀ i, i < cl.length + 1 → R5.getD i 0 = nI (wtN S (cl ++ [p]) i) := fun i hi => by
        rw [← hR5, getD_set, yn45 hy]
        by_cases e : i = cl.length
        · rw [if_pos ⟨e, by omega⟩, e, w2]
        · rw [if_neg (fun z => e z.1), w1 i (by omega)]; exact (b3 i (by omega)).2.2.2
      have fin : ∀ pl r6, pl ≤ cl.length → r6.length = 7 → (∀ k, k < pl → r6.getD k 0 = nI (gN bw k)) → (∀ k, pl ≤ k → k < cl.length → r6.getD (k + 1) 0 = nI (gN bw k) ∧ wtN S cl (gN bw k) < wn) → (∀ k, k < pl → wn ≤ wtN S cl (gN bw k)) → Ex l w true mX3_offer (d + 1) Q 108 [some (vr 42), some (vr (gN (gPa G) p)), some (vi (nI wn)), some (vr (hR h 583 32)), some (vi (nI pl))] [] (tI (tI (tI (tI h 43 R3) 44 R4) 45 R5) 46 r6) 0 0 := by
        intro pl r6 hpl hr6 e1 e2 e3
        refine Ex.lay (fun hy => ?_)
        refine go ok_X3_offer ?_
        refine And.intro (jx46 hy rfl (by omega)) ?_
        rw [nI_clamp (n := pl) (by omega), show hI (tI (tI (tI (tI h 43 R3) 44 R4) 45 R5) 46 r6) 266 42 = nI cl.length from b1]
        refine q _ ((((((hK.t (by decide)).t (by decide)).t (by decide)).t (by decide)).t (by decide)).s (by decide)) hr ⟨?_, ?_, fun i hi => ?_, bw.take pl ++ cl.length :: bw.drop pl, ?_, fun x => ?_, ?_, fun k hk => ?_⟩ rfl
        · rw [List.length_append]
          show hI h 266 42 + 1 = _
          rw [b1, nI_1]
          rfl
        · rw [List.length_append]; show cl.length + 1 ≤ 7; omega
        · rw [List.length_append] at hi
          replace hi : i < cl.length + 1 := hi
          refine ⟨?_, r3 i hi, r4 i hi, r5 i hi⟩
          rw [gN_app]
          by_cases e : i < cl.length
          · rw [if_pos e]; exact (b3 i e).1
          · rw [if_neg e, if_pos (by omega)]; exact ⟨hp, hokp⟩
        · rw [List.length_append, List.length_cons, List.length_take, List.length_drop, List.length_append, List.length_singleton, c1]
          omega
        · rw [List.length_append, List.length_singleton, List.mem_append, List.mem_cons]
          have hm := c2 x
          rw [← List.take_append_drop pl bw, List.mem_append] at hm
          constructor
          · rintro (z | z | z)
            · have := hm.mp (Or.inl z); omega
            · omega
            · have := hm.mp (Or.inr z); omega
          · intro z
            by_cases y : x = cl.length
            · exact Or.inr (Or.inl y)
            · rcases hm.mpr (by omega) with u | u
              · exact Or.inl u
              · exact Or.inr (Or.inr u)
        · refine pw_ins (c3.imp_of_mem (fun {x y} hx hy2 z => ?_)) (fun k hk hk2 => ?_) (fun k hk hk2 => ?_)
          · rw [w1 x ((c2 x).mp hx), w1 y ((c2 y).mp hy2)]; exact z
          · rw [w2, w1 _ (gnb k (by omega))]; exact e3 k hk
          · rw [w2, w1 _ (gnb k (by omega))]; exact Nat.le_of_lt (e2 k hk (by omega)).2
        · rw [List.length_append] at hk
          replace hk : k < cl.length + 1 := hk
          show (r6.set pl (nI cl.length)).getD k 0 = _
          rw [getD_set, ins_row c1 hpl]
          by_cases x1 : k < pl
          · rw [if_neg (by omega), if_pos x1]; exact e1 k x1
          · rw [if_neg x1]
            by_cases x2 : k = pl
            · rw [if_pos ⟨x2, by omega⟩, if_pos x2]
            · rw [if_neg (by omega), if_neg x2]
              have := (e2 (k - 1) (by omega) (by omega)).1
              rw [show k - 1 + 1 = k by omega] at this
              exact this
      have lp : ∀ pl r6, pl ≤ cl.length → r6.length = 7 → (∀ k, k < pl → r6.getD k 0 = nI (gN bw k)) → (∀ k, pl ≤ k → k < cl.length → r6.getD (k + 1) 0 = nI (gN bw k) ∧ wtN S cl (gN bw k) < wn) → Ex l w true mX3_offer (d + 1) Q 63 [some (vr 42), some (vr (gN (gPa G) p)), some (vi (nI wn)), some (vr (hR h 583 32)), some (vi (nI pl))] [] (tI (tI (tI (tI h 43 R3) 44 R4) 45 R5) 46 r6) 0 0 := by
        intro pl
        induction pl with
        | zero =>
          intro r6 hpl hr6 e1 e2
          refine go ok_X3_offer ?_
          refine And.intro (fun c8 => ?_) (fun c8 => absurd c8 (by decide))
          exact fin 0 r6 hpl hr6 e1 e2 (fun k hk => by omega)
        | succ pl ih =>
          intro r6 hpl hr6 e1 e2
          have h1 := e1 pl (by omega)
          have h2 := gnb pl (by omega)
          have h3 := r5 (gN bw pl) (by omega)
          rw [w1 _ h2] at h3
          have hwb : wtN S cl (gN bw pl) ≤ 3000000 := by
            unfold wtN
            obtain ⟨m, hm, em⟩ := hv.worth (gN cl (gN bw pl))
            rw [em, nI_clamp (by omega)]
            exact hm
          refine Ex.lay (fun hy => ?_)
          refine go ok_X3_offer ?_
          refine asAnd ?_
          rw [show (nI (pl + 1) ≤ 0) ↔ False from by rw [show (0 : Int32) = nI 0 from rfl, nI_leI (by omega) (by omega)]; exact ⟨fun z => by omega, False.elim⟩]
          refine And.intro (fun z => z.elim) (fun _ => ?_)
          refine go ok_X3_offer ?_
          refine asAnd ?_
          rw [nI_prd (by omega), Nat.add_sub_cancel]
          refine And.intro (ix46 hy rfl (by omega)) ?_
          refine asAnd ?_
          rw [nI_clamp (n := pl) (by omega), show (aI (tI (tI (tI (tI h 43 R3) 44 R4) 45 R5) 46 r6) 46).getD pl 0 = nI (gN bw pl) from h1]
          refine And.intro (ix45 hy rfl (by omega)) ?_
          refine asAnd ?_
          rw [nI_clamp (n := gN bw pl) (by omega), show (aI (tI (tI (tI (tI h 43 R3) 44 R4) 45 R5) 46 r6) 45).getD (gN bw pl) 0 = nI (wtN S cl (gN bw pl)) from h3, nI_leI (by omega) (by omega)]
          refine And.intro (fun c8 => ?_) (fun c8 => ?_)
          · refine fin (pl + 1) r6 hpl hr6 e1 e2 (fun k hk => ?_)
            by_cases z : k = pl
            · subst z; exact c8
            · have hpw := List.pairwise_iff_getElem.mp c3 k pl (by omega) (by omega) (by omega)
              have g1 : ∀ j, (hj : j < bw.length) → bw[j] = gN bw j := fun j hj => by unfold gN; rw [List.getD_eq_getElem?_getD, List.getElem?_eq_getElem hj]; rfl
              rw [g1, g1] at hpw
              omega
          · have hh := ih (r6.set (pl + 1) (nI (gN bw pl))) (by omega) (by rw [List.length_set]; exact hr6) (fun k hk => by rw [getD_set, if_neg (by omega)]; exact e1 k (by omega)) (fun k hk hk2 => by
              rw [getD_set]
              by_cases z : k = pl
              · subst z; rw [if_pos ⟨rfl, by omega⟩]; exact ⟨rfl, by omega⟩
              · rw [if_neg (by omega)]; exact e2 k (by omega) hk2)
            rw [nI_dec pl, ← tI_tI _ 46 r6] at hh
            refine go ok_X3_offer ?_
            refine asAnd ?_
            rw [nI_prd (by omega), Nat.add_sub_cancel]
            refine And.intro (ix46 hy rfl (by omega)) ?_
            refine asAnd ?_
            rw [nI_clamp (n := pl) (by omega), show (aI (tI (tI (tI (tI h 43 R3) 44 R4) 45 R5) 46 r6) 46).getD pl 0 = nI (gN bw pl) from h1]
            refine And.intro (jx46 hy rfl (by omega)) ?_
            rw [nI_clamp (n := pl + 1) (by omega)]
            exact hh
      have hh := lp cl.length (aI h 46) (Nat.le_refl _) (yn46 hy) c4 (fun k h1 h2 => by omega)
      rw [← hR3, ← hR4, ← hR5, ← b1, ← eN, ← ew] at hh
      have e46 : ∀ (x y z : List Int32), tI (tI (tI (tI h 43 x) 44 y) 45 z) 46 (aI h 46) = tI (tI (tI h 43 x) 44 y) 45 z := fun x y z => tI_self (tI (tI (tI h 43 x) 44 y) 45 z) 46
      rw [e46] at hh
      refine go ok_X3_offer ?_
      refine And.intro a1 ?_
      refine asAnd ?_
      rw [a2]
      refine And.intro (jx43 hy (k := cl.length) b1 (by omega)) ?_
      refine And.intro a1 ?_
      refine asAnd ?_
      rw [show hI (tI h 43 _) 193 (gN (gPa G) p) = nI k from a3.trans ek]
      refine And.intro (show jxI h 44 _ from jx44 hy (k := cl.length) b1 (by omega)) ?_
      refine And.intro (show jxI h 45 _ from jx45 hy (k := cl.length) b1 (by omega)) ?_
      exact hh
    · have hokp : fPl S cl p = cl := by unfold fPl; rw [if_neg (fun z => (hok.mpr z) (by simpa using c5))]
      refine go ok_X3_offer ?_
      exact q h hK hr (by rw [hokp]; exact ⟨b1, b2, b3, bw, c1, c2, c3, c4⟩) rfl
end C21

