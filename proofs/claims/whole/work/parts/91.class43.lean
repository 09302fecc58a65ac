/-! ===== the class: take ===== -/
theorem lkD_set2 {D : List LK} {k i : Nat} {v : LK} : lkD (D.set k v) i = if i = k ∧ k < D.length then v else lkD D i := getD_set D k i v _
theorem holeD_len (D : List LK) (k : Nat) : (holeD D k).length = D.length := List.length_set ..
theorem holeD_ne {D : List LK} {k i : Nat} (h : ¬ i = k) : lkD (holeD D k) i = lkD D i := by unfold holeD; rw [lkD_set2, if_neg (fun z => h z.1)]
theorem holeD_eq {D : List LK} {k : Nat} (h : k < D.length) : lkD (holeD D k) k = (pgD D k, hrD D k, 3, 0, dtD D k) := by unfold holeD; rw [lkD_set2, if_pos ⟨rfl, h⟩]
theorem holeD_pg {D : List LK} {k i : Nat} (h : k < D.length) : pgD (holeD D k) i = pgD D i ∧ hrD (holeD D k) i = hrD D i := by
  by_cases c : i = k
  · subst c
    unfold pgD hrD
    rw [holeD_eq h]
    exact ⟨rfl, rfl⟩
  · unfold pgD hrD
    rw [holeD_ne c]
    exact ⟨rfl, rfl⟩
theorem vws_hole {D : List LK} {k : Nat} (hk : k < D.length) (p : Nat) : vws (holeD D k) p = (vws D p).filter (fun j => !decide (j = k)) := by
  unfold vws
  rw [holeD_len, List.filter_filter]
  congr 1
  funext i
  by_cases c : i = k
  · subst c
    have : isV (holeD D i) i = false := by
      unfold isV kdD
      rw [holeD_eq hk]
      simp
    rw [this, Bool.and_false, decide_eq_true rfl]
    rfl
  · rw [decide_eq_false c]
    unfold isV pgD kdD
    rw [holeD_ne c, holeD_len]
    simp
theorem vwA_filter {la L : List Nat} {k : Nat} (inj : ∀ j, j ∈ L → gN la j = gN la k → j = k) : (vwA la L).filter (fun x => !decide (x = gN la k)) = vwA la (L.filter (fun j => !decide (j = k))) := by
  unfold vwA
  rw [List.filter_map]
  congr 1
  apply List.filter_congr
  intro j hj
  show (!decide (gN la j = gN la k)) = !decide (j = k)
  by_cases c : j = k
  · rw [decide_eq_true c, decide_eq_true (by rw [c])]
  · rw [decide_eq_false c, decide_eq_false (fun z => c (inj j hj z))]
theorem klR_hole {ds : List Int32} {D : List LK} {k : Nat} (hk : k < D.length) (x : Nat) : ∀ n, klR ds (holeD D k) x n = klR ds D x n := by
  intro n
  induction n with
  | zero => rfl
  | succ n ih => rw [klR, klR, ih, (holeD_pg hk).1, (holeD_pg hk).2]
section C43
variable {l : Launch} {w : WD} {d : Nat} {h h' h1 h2 : AH} {Q : Option AV → AH → Prop} {S S' : SG} {G G' : GH} {b a : Nat} {L : List Nat}
/-- a look taken out -/
def tkH (h : AH) (a : Nat) : AH := sI (sI (sL (sI h 131 a (-1)) 133 a 0) 132 a (-1)) 134 a 1
theorem c_takeOut (ha : hC h a = 3) (q : Q none (tkH h a)) : Con l w true (d + 1) HX1_takeOut [vr a] h 0 0 Q := by
  refine Con.of ok_X1_takeOut (nones := []) rfl (by simp) ?_
  refine go ok_X1_takeOut ?_
  refine And.intro ha ?_
  have tl : ∀ K : Option AV → AH → Prop, K none (sI (sL (sI h 131 a (-1)) 133 a 0) 132 a (-1)) → Con l w true d HX1_tell [vr a, vi (-1), vl 0, vi (-1)] h 0 0 K := by
    intro K hK
    refine Con.of ok_X1_tell (nones := []) rfl (by simp) ?_
    refine go ok_X1_tell ?_
    refine And.intro ha ?_
    refine And.intro ha ?_
    refine And.intro ha ?_
    exact hK
  refine Cal.z (tl _ ?_)
  refine go ok_X1_takeOut ?_
  refine And.intro ha ?_
  refine And.intro (Or.inr rfl) ?_
  exact q
theorem LKc.take {D : List LK} {pa la : List Nat} {k : Nat} (hA : LKc D pa la h) (hk : k < D.length) (inj : ∀ j, j < D.length → gN la j = gN la k → j = k) : LKc (holeD D k) pa la (tkH h (gN la k)) := by
  refine ⟨by rw [holeD_len]; exact hA.1, fun i hi => ?_⟩
  rw [holeD_len] at hi
  obtain ⟨b1, b2, b3, b4, b5, b6, b7, b8⟩ := hA.2 i hi
  have ep := holeD_pg (i := i) hk
  by_cases c : i = k
  · subst c
    have k3 : kdD (holeD D i) i = 3 := by unfold kdD; rw [holeD_eq hk]
    unfold kdC dtC
    rw [ep.1, ep.2, k3]
    unfold tkH
    refine ⟨b1, ?_, b3, ?_, ?_, ?_, ?_, ?_⟩
    · rw [hI_sI, if_neg (by omega), hI_sI, if_neg (by omega), hI_sL, hI_sI, if_neg (by omega)]; exact b2
    · rw [hI_sI, if_neg (by omega), hI_sI, if_neg (by omega), hI_sL, hI_sI, if_neg (by omega)]; exact b4
    · rw [hI_sI, if_neg (by omega), hI_sI, if_neg (by omega), hI_sL, hI_sI, if_pos ⟨rfl, rfl⟩]; rfl
    · rw [hI_sI, if_neg (by omega), hI_sI, if_pos ⟨rfl, rfl⟩]; rfl
    · rw [hL_sI, hL_sI, hL_sL, if_pos ⟨rfl, rfl⟩]; unfold stD; rw [holeD_eq hk]
    · rw [hI_sI, if_pos ⟨rfl, rfl⟩]; rfl
  · have ne : ¬ gN la i = gN la k := fun z => c (inj i hi z)
    have eI : ∀ f, hI (tkH h (gN la k)) f (gN la i) = hI h f (gN la i) := fun f => by
      unfold tkH
      rw [hI_sI, if_neg (fun z => ne z.2), hI_sI, if_neg (fun z => ne z.2), hI_sL, hI_sI, if_neg (fun z => ne z.2)]
    have eL : hL (tkH h (gN la k)) 133 (gN la i) = hL h 133 (gN la i) := by
      unfold tkH
      rw [hL_sI, hL_sI, hL_sL, if_neg (fun z => ne z.2), hL_sI]
    unfold kdC dtC kdD dtD stD pgD hrD
    rw [holeD_ne c, eI, eI, eI, eI, eI, eL]
    exact ⟨b1, b2, b3, b4, b5, b6, b7, b8⟩
theorem AL.tk (hA : AL h b L) : AL (tkH h a) b L := hA.cg rfl (by unfold tkH; rw [hI_sI, if_neg (by omega), hI_sI, if_neg (by omega), hI_sL, hI_sI, if_neg (by omega)]) rfl rfl
theorem RC.take (hc : RC S G h) (hv : Inv S) (hy : Lay h) (ho : ∀ n, ¬ hC h n = 0 → n < hZ h) {k : Nat} (hk : k < (gD S).length) (af1 : AF (hR h 194 (gN (gPa G) (pgD (gD S) k))) h h1) (hA1 : AL h1 (hR h 194 (gN (gPa G) (pgD (gD S) k))) ((vwA (gLa G) (vws (gD S) (pgD (gD S) k))).filter (fun x => !decide (x = gN (gLa G) k)))) (hz1 : hZ h1 = hZ h) (ho1 : ∀ n, ¬ hC h1 n = 0 → n < hZ h1) (af2 : AF 39 h1 h2) (hA2 : AL h2 39 ((vwA (gLa G) (gWh S)).filter (fun x => !decide (x = gN (gLa G) k)))) (hz2 : hZ h2 = hZ h1) (ho2 : ∀ n, ¬ hC h2 n = 0 → n < hZ h2) : RC (sWh (sD S (holeD (gD S) k)) ((gWh S).filter (fun j => !decide (j = k)))) G (tkH h2 (gN (gLa G) k)) ∧ OX h (tkH h2 (gN (gLa G) k)) := by
  have hz : 88 ≤ hZ h := hy.1
  have hp := hv.pg hk
  have a88 := (hc.lks.2 k hk).1.2
  have a3 := (hc.lks.2 k hk).1.1
  have az : ¬ gN (gLa G) k = hZ h := by have := ho _ (show ¬ hC h (gN (gLa G) k) = 0 by omega); omega
  have inj : ∀ j, j < (gD S).length → gN (gLa G) j = gN (gLa G) k → j = k := fun j hj z => hc.la_inj hj hk z
  have vin : ∀ p j, j ∈ vws (gD S) p → j < (gD S).length := fun p j hj => List.mem_range.mp (List.mem_filter.mp hj).1
  have win : ∀ j, j ∈ gWh S → j < (gD S).length := fun j hj => by
    obtain ⟨i, hi, hij⟩ := List.mem_iff_getElem.mp hj
    have := hv.wh hi
    have e2 : gN (gWh S) i = j := by show (gWh S).getD i 0 = j; rw [List.getD_eq_getElem?_getD, List.getElem?_eq_getElem hi, hij]; rfl
    rwa [e2] at this
  rw [vwA_filter (fun j hj z => inj j (vin _ j hj) z)] at hA1
  rw [vwA_filter (fun j hj z => inj j (win j hj) z)] at hA2
  have iv : ∀ p, p < (gDs S).length → isLs S G h (hR h 194 (gN (gPa G) p)) := fun p hp => Or.inr (Or.inr (Or.inr ⟨p, hp, rfl⟩))
  have i39 : isLs S G h 39 := Or.inr (Or.inr (Or.inl rfl))
  have vne : ∀ c, c < 88 → ¬ c = hR h 194 (gN (gPa G) (pgD (gD S) k)) := fun c hc88 z => hc.vne hp hc88 z.symm
  have ivk := iv _ hp
  have v1 : hC h (hR h 194 (gN (gPa G) (pgD (gD S) k))) = 1 := (hc.pgs.2.2 _ hp).2.2.2.1.1
  generalize ev : hR h 194 (gN (gPa G) (pgD (gD S) k)) = v at *
  have r1 : hR h1 1 v = hR h 1 v := by
    rcases af1.2.2.2.2.2.2.2.2 with z | z
    · exact z
    · have := ho1 (hR h1 1 v) (by rw [hA1.2.2.1]; decide); omega
  have ls : ∀ c, isLs S G h c → ∃ L, AL h c L := fun c hcl => by
    rcases hcl with z | z | z | ⟨p, hp, z⟩
    · exact ⟨_, z ▸ hc.pg⟩
    · exact ⟨_, z ▸ hc.lk⟩
    · exact ⟨_, z ▸ hc.wh⟩
    · exact ⟨_, z ▸ (hc.pgs.2.2 p hp).2.2.2.1⟩
  have lz : ∀ c, isLs S G h c → ¬ c = hZ h := fun c hcl => by
    obtain ⟨L, hL⟩ := ls c hcl
    have := ho c (by rw [hL.1]; decide); omega
  have rr : ∀ c, isLs S G h c → hR h1 1 c = hR h 1 c := fun c hcl => by
    by_cases z : c = v
    · rw [z]; exact r1
    · exact af1.2.2.2.1 1 c (lz c hcl) (fun y => z y.2)
  have tr : ∀ c L, isLs S G h c → ¬ c = v → ¬ c = 39 → AL h c L → AL (tkH h2 (gN (gLa G) k)) c L := fun c L hcl n1 n2 hL => by
    have x := hL.af af1 n1 ho (hc.row ivk hcl n1)
    refine (x.af af2 n2 ho1 ?_).tk
    rw [rr c hcl, rr 39 i39]
    exact hc.row i39 hcl n2
  have n0 : ∀ {n}, ft h n → ¬ n = hZ h := fun hf => af1.ft ho hz hf
  have n1 : ∀ {n}, ft h n → ¬ n = hZ h1 := fun hf => by rw [hz1]; exact n0 hf
  have c1 : hC h1 39 = 1 := by rw [af1.1 39 (by omega)]; exact yc39 hy
  have r2 : ∀ c, isLs S G h c → hR h2 1 c = hR h 1 c := fun c hcl => by
    by_cases z : c = 39
    · rcases af2.2.2.2.2.2.2.2.2 with y | y
      · rw [z, y]; exact rr 39 i39
      · have := ho2 (hR h2 1 39) (by rw [hA2.2.2.1]; decide); omega
    · rw [af2.2.2.2.1 1 c (by rw [hz1]; exact lz c hcl) (fun y => z y.2)]; exact rr c hcl
  have eI : ∀ f n, ft h n → ¬ n = gN (gLa G) k → ¬ (f = 0 ∨ f = 2) → hI (tkH h2 (gN (gLa G) k)) f n = hI h f n := fun f n hf hn h2 => by
    unfold tkH
    rw [hI_sI, if_neg (fun z => hn z.2), hI_sI, if_neg (fun z => hn z.2), hI_sL, hI_sI, if_neg (fun z => hn z.2), af2.2.1 f n (n1 hf) (fun z => h2 z.1), af1.2.1 f n (n0 hf) (fun z => h2 z.1)]
  have eL : ∀ f n, ft h n → ¬ n = gN (gLa G) k → hL (tkH h2 (gN (gLa G) k)) f n = hL h f n := fun f n hf hn => by
    unfold tkH
    rw [hL_sI, hL_sI, hL_sL, if_neg (fun z => hn z.2), hL_sI, af2.2.2.1 f n (n1 hf), af1.2.2.1 f n (n0 hf)]
  have ea : ∀ n, ft h n → aI (tkH h2 (gN (gLa G) k)) n = aI h n := fun n hf => by
    show aI h2 n = _
    rw [af2.2.2.2.2.1 n (n1 hf), af1.2.2.2.2.1 n (n0 hf)]
  have eaL : ∀ n, ft h n → aL (tkH h2 (gN (gLa G) k)) n = aL h n := fun n hf => by
    show aL h2 n = _
    rw [af2.2.2.2.2.2.1 n (n1 hf), af1.2.2.2.2.2.1 n (n0 hf)]
  have f88 : ∀ {n}, n < 88 → ft h n := fun hn => Or.inl hn
  refine ⟨hc.gen (fun n hf => ?_) (fun f n hf h3 h2 => eI f n hf (fun z => by rw [z] at h3; exact h3 a3) h2) (fun f n hf h3 => eL f n hf (fun z => by rw [z] at h3; exact h3 a3)) (fun f n hf _ hf1 => ?_) (fun n hf _ => ea n hf) (fun n hn => ?_) hy rfl rfl rfl rfl rfl rfl rfl rfl rfl
    (tr 33 _ (Or.inl rfl) (vne 33 (by decide)) (by decide) hc.pg) (tr 34 _ (Or.inr (Or.inl rfl)) (vne 34 (by decide)) (by decide) hc.lk) hA2.tk (fun p hp2 => ?_) ?_ ?_ ?_ (fun c hcl => ?_), ⟨fun f hf => ⟨eI f 62 (f88 (by decide)) (by omega) (by omega), eL f 62 (f88 (by decide)) (by omega)⟩, fun x h1 h2 => ⟨ea x (f88 h2), eaL x (f88 h2)⟩⟩⟩
  · show hC h2 n = _
    rw [af2.1 n (n1 hf), af1.1 n (n0 hf)]
  · show hR h2 f n = _
    rw [af2.2.2.2.1 f n (n1 hf) (fun z => hf1 z.1), af1.2.2.2.1 f n (n0 hf) (fun z => hf1 z.1)]
  · show aR h2 n = _
    rw [af2.2.2.2.2.2.2.1 n (by omega) (by omega), af1.2.2.2.2.2.2.1 n (by omega) (by omega)]
  · show AL _ _ (vwA (gLa G) (vws (holeD (gD S) k) p))
    rw [vws_hole hk]
    by_cases z : p = pgD (gD S) k
    · subst z
      rw [ev]
      refine (hA1.af af2 (fun y => vne 39 (by decide) y.symm) ho1 ?_).tk
      rw [rr _ ivk, rr 39 i39]
      exact hc.row i39 ivk (fun y => vne 39 (by decide) y.symm)
    · have nv : ¬ hR h 194 (gN (gPa G) p) = v := by rw [← ev]; exact hc.vv hp2 hp z
      have x := tr _ _ (iv p hp2) nv (hc.vne hp2 (by decide)) (hc.pgs.2.2 p hp2).2.2.2.1
      have : (vws (gD S) p).filter (fun j => !decide (j = k)) = vws (gD S) p := by
        refine List.filter_eq_self.mpr (fun j hj => ?_)
        have y := (List.mem_filter.mp hj).2
        rw [decide_eq_false (fun e => z (by rw [e] at y; exact (of_decide_eq_true (Bool.and_eq_true_iff.mp y).1).symm))]
        rfl
      rw [this]
      exact x
  · exact ((hc.lks.af af1 ho v1).af af2 ho1 c1).take hk inj
  · show ∀ j, j < 6 → (aI (tkH h2 (gN (gLa G) k)) 35).getD j 0 = klR (gDs S) (holeD (gD S) k) j (holeD (gD S) k).length
    rw [ea 35 (f88 (by decide)), holeD_len]
    intro j hj
    rw [klR_hole hk]
    exact hc.kn j hj
  · rw [eaL 53 (f88 (by decide))]; exact hc.hs
  · show hR h2 1 c = 1 ∨ G.2.2.2.1 (hR h2 1 c) = c
    rw [r2 c hcl]
    exact hc.ow.2.1 c hcl
theorem c_take (hc : RC S G h) (hv : Inv S) {x : Int32} (qq : ∀ G' h', RC (takeF S x).2 G' h' → OX h h' → Q (some (vi (takeF S x).1)) h') : Con l w true (d + 4) HX8_take [vr 32, vi x] h 0 0 Q := by
  refine Con.of ok_X8_take (nones := [none]) rfl (by simp) ?_
  refine Ex.lay (fun hy => ?_)
  refine Ex.old (fun ho hz32 => ?_)
  have hz : 88 ≤ hZ h := hy.1
  refine go ok_X8_take ?_
  refine Cal.z (k_lookAt hc (fun e => ?_) (fun k hk ek e hn => ?_))
  · rw [takeF, e] at qq
    refine go ok_X8_take ?_
    refine And.intro (fun c => absurd c (by decide)) (fun c => ?_)
    refine go ok_X8_take ?_
    exact qq G h hc (OX.rf h)
  · rw [takeF, e] at qq
    dsimp only at qq
    have hm := hc.home hk
    have lk := hc.lks.2 k hk
    have a88 := lk.1.2
    have hp := hv.pg hk
    have pgs := hc.pgs.2.2 _ hp
    refine go ok_X8_take ?_
    refine And.intro (fun c => ?_) (fun c => absurd c hn)
    refine go ok_X8_take ?_
    refine And.intro hm.1 ?_
    refine asAnd ?_
    rw [lk.2.2.2.2.2.2.2]
    by_cases c1 : kdD (gD S) k = 3
    · rw [if_pos c1] at qq
      rw [decide_eq_true c1]
      refine And.intro (fun c2 => absurd c2 (by decide)) (fun c2 => ?_)
      refine go ok_X8_take ?_
      exact qq G h hc (OX.rf h)
    · rw [if_neg c1] at qq
      rw [decide_eq_false c1]
      refine And.intro (fun c2 => ?_) (fun c2 => absurd c2 (by decide))
      have inj : ∀ j, j < (gD S).length → gN (gLa G) j = gN (gLa G) k → j = k := fun j hj z => hc.la_inj hj hk z
      have vin : ∀ p j, j ∈ vws (gD S) p → j < (gD S).length := fun p j hj => by
        have := (List.mem_filter.mp hj).1
        exact List.mem_range.mp this
      have w88 : ∀ x, x ∈ vwA (gLa G) (gWh S) → 88 ≤ x := fun x hx => by
        obtain ⟨j, hj, rfl⟩ := List.mem_map.mp hx
        obtain ⟨i, hi, hij⟩ := List.mem_iff_getElem.mp hj
        have := hv.wh hi
        have e2 : gN (gWh S) i = j := by show (gWh S).getD i 0 = j; rw [List.getD_eq_getElem?_getD, List.getElem?_eq_getElem hi, hij]; rfl
        rw [e2] at this
        exact (hc.lks.2 j this).1.2
      have v88 : ∀ x, x ∈ vwA (gLa G) (vws (gD S) (pgD (gD S) k)) → 88 ≤ x := fun x hx => by
        obtain ⟨j, hj, rfl⟩ := List.mem_map.mp hx
        exact (hc.lks.2 j (vin _ j hj)).1.2
      refine go ok_X8_take ?_
      refine And.intro hm.1 ?_
      refine asAnd ?_
      rw [hm.2]
      refine And.intro pgs.1.1 ?_
      refine Cal.z (c_dropP pgs.1.1 rfl pgs.2.2.2.1 (hc.ow.1 _ hp).2 v88 a88 (ho _ (by rw [pgs.1.1]; decide)) (fun h1 hA1 af1 hz1 => ?_))
      refine Ex.old (fun ho1 _ => ?_)
      have z39 : ¬ (39 : Nat) = hR h 194 (gN (gPa G) (pgD (gD S) k)) := fun z => hc.vne hp (by decide) z.symm
      have hW1 : AL h1 39 (vwA (gLa G) (gWh S)) := hc.wh.af af1 z39 ho (hc.row (Or.inr (Or.inr (Or.inr ⟨_, hp, rfl⟩))) (Or.inr (Or.inr (Or.inl rfl))) z39)
      refine go ok_X8_take ?_
      refine Cal.z (c_dropW hW1 w88 a88 (fun h2 hA2 af2 hz2 => ?_))
      refine Ex.old (fun ho2 _ => ?_)
      have a3 : hC h2 (gN (gLa G) k) = 3 := by
        have z := ho _ (show ¬ hC h (gN (gLa G) k) = 0 by rw [hm.1]; decide)
        rw [af2.1 _ (by omega), af1.1 _ (by omega)]; exact hm.1
      obtain ⟨z1, z2⟩ := hc.take hv hy ho hk af1 hA1 hz1 ho1 af2 hA2 hz2 ho2
      refine go ok_X8_take ?_
      refine And.intro a3 ?_
      refine Cal.z (c_takeOut a3 ?_)
      refine go ok_X8_take ?_
      exact qq G _ z1 z2
end C43

