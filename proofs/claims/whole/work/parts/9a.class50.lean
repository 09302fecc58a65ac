/-! ===== the class: keep ===== -/
section C50
variable {l : Launch} {w : WD} {d : Nat} {h h' h1 h2 A : AH} {Q : Option AV → AH → Prop} {S S' : SG} {G G' : GH} {b a : Nat} {L : List Nat}
theorem c_keep (hc : RC S G h) (hv : Inv S) {p dk : Nat} (hp : p < (gDs S).length) (hdk : dk < 6) (ed : (gDs S).getD p 0 = nI dk) {x : LK} (ex1 : x.1 = p) (ex2 : x.2.1 = gNw S) (hk3 : ¬ x.2.2.1 = 3) (na : NLk h a (gD S).length (gN (gPa G) p) x) (h99 : (gD S).length ≤ 99) (qq : ∀ G' h', RC (sHs (sD S (gD S ++ [x])) ((gHs S).map (fun v => v ||| x.2.2.2.1))) G' h' → OX h h' → hC h' a = 3 → hI h' 128 a = nI (gD S).length → Q none h') : Con l w true (d + 7) HX8_keep [vr 32, vr a] h 2 300 Q := by
  have ell := hc.lks.1
  have a88 := na.1.2
  have a3 := na.1.1
  have v88 := (hc.ow.1 p hp).2
  have pgs := hc.pgs.2.2 p hp
  refine Con.of ok_X8_keep (nones := []) rfl (by simp) ?_
  refine Ex.lay (fun hy => ?_)
  refine Ex.old (fun ho hz32 => ?_)
  have hz := hy.1
  have az := ho a (by rw [a3]; decide)
  have pz := ho _ (show ¬ hC h (gN (gPa G) p) = 0 by rw [pgs.1.1]; decide)
  have vz := ho _ (show ¬ hC h (hR h 194 (gN (gPa G) p)) = 0 by rw [pgs.2.2.2.1.1]; decide)
  have p88 := pgs.1.2
  have vlen : (vws (gD S) p).length ≤ 99 := Nat.le_trans (vws_len _ _) h99
  have vin : ∀ j, j ∈ vws (gD S) p → j < (gLa G).length := fun j hj => by rw [ell]; exact List.mem_range.mp (List.mem_filter.mp hj).1
  refine go ok_X8_keep ?_
  refine And.intro hc.lk.1 ?_
  refine Cal.k 1 150 (c2 := 1) (s2 := 150) rfl rfl (j_add hc.lk (by omega) (Or.inr ⟨by omega, Or.inl a3⟩) (fun h1 hA1 af1 hz1 => ?_))
  refine Ex.old (fun ho1 _ => ?_)
  have zz : hZ h ≤ hZ h1 := af1.2.2.2.2.2.2.2.1
  have c1 : hC h1 a = 3 := by rw [af1.1 a (by omega)]; exact a3
  have k1 : hI h1 131 a = kdC (gD S ++ [x]) (gD S).length := by
    rw [af1.2.1 131 a (by omega) (by omega)]
    unfold kdC kdD
    rw [lkD_e, if_neg hk3]
    exact na.2.2.2.2.1
  have p1 : hC h1 (gN (gPa G) p) = 4 := by rw [af1.1 _ (by omega)]; exact pgs.1.1
  have r1 : hR h1 129 a = gN (gPa G) p := by rw [af1.2.2.2.1 129 a (by omega) (by omega)]; exact na.2.2.1
  have r2 : hR h1 194 (gN (gPa G) p) = hR h 194 (gN (gPa G) p) := af1.2.2.2.1 194 _ (by omega) (by omega)
  have av1 : AL h1 (hR h 194 (gN (gPa G) p)) (vwA (gLa G) (vws (gD S) p)) := pgs.2.2.2.1.af af1 (by omega) ho (hc.row (Or.inr (Or.inl rfl)) (Or.inr (Or.inr (Or.inr ⟨p, hp, rfl⟩))) (by omega))
  -- the end
  have fin : ∀ h2, AF (hR h 194 (gN (gPa G) p)) h1 h2 → AL h2 (hR h 194 (gN (gPa G) p)) (vwA (gLa G ++ [a]) (vws (gD S ++ [x]) p)) → ∀ bc bs, Ex l w true mX8_keep (d + 7) Q 32 [some (vr 32), some (vr a)] [] h2 bc bs := by
    intro h2 af2 av2 bc bs
    obtain ⟨z1, z2, z3⟩ := hc.lkn hv hy ho hp hdk ed ex1 ex2 hk3 na af1 hA1 ho1 zz af2 av2 (hs := (gHs S).map (fun v => v ||| x.2.2.2.1))
    have c2 : hC h2 a = 3 := by rw [af2.1 a (by omega)]; exact c1
    have d2 : hR h2 129 a = gN (gPa G) p := by rw [af2.2.2.2.1 129 a (by omega) (by omega)]; exact r1
    have e2 : hC h2 (hR h2 129 a) = 4 := by rw [d2, af2.1 _ (by omega)]; exact p1
    have f2 : hI h2 193 (hR h2 129 a) = nI dk := by rw [d2, af2.2.1 193 _ (by omega) (by omega), af1.2.1 193 _ (by omega) (by omega), pgs.2.2.1]; exact ed
    have g2 : hI h2 586 32 = gNw S := by rw [af2.2.1 586 32 (by omega) (by omega), af1.2.1 586 32 (by omega) (by omega)]; exact hc.now
    have l2 : hL h2 133 a = x.2.2.2.1 := by rw [af2.2.2.1 133 a (by omega), af1.2.2.1 133 a (by omega)]; exact na.2.2.2.2.2.2.1
    have s2 : aL h2 53 = gHs S := by rw [af2.2.2.2.2.2.1 53 (by omega), af1.2.2.2.2.2.1 53 (by omega)]; exact hc.hs
    have ec : (hI h2 193 (hR h2 129 a)).toNatClampNeg = dk := by rw [f2]; exact nI_clamp (by omega)
    have hq := qq _ _ z1 z2 c2 z3
    have e3 : kpH h2 dk (gNw S) ((gHs S).map (fun v => v ||| x.2.2.2.1)) = tL (tI h2 35 ((aI h2 35).set (hI h2 193 (hR h2 129 a)).toNatClampNeg (hI h2 586 32))) 53 ((gHs S).map (fun v => v ||| hL (tI h2 35 ((aI h2 35).set (hI h2 193 (hR h2 129 a)).toNatClampNeg (hI h2 586 32))) 133 a)) := by
      rw [ec, g2, show hL (tI h2 35 ((aI h2 35).set dk (gNw S))) 133 a = x.2.2.2.1 from l2]
      rfl
    rw [e3] at hq
    refine Ex.lay (fun hy => ?_)
    refine go ok_X8_keep ?_
    refine And.intro c2 ?_
    refine And.intro e2 ?_
    refine And.intro (jx35 hy (k := dk) f2 (by omega)) ?_
    refine And.intro c2 ?_
    refine Cal.z (c_bring (v := gHs S) s2 hv.2.2.2.2.1 ?_)
    refine go ok_X8_keep ?_
    exact hq
  refine go ok_X8_keep ?_
  refine And.intro c1 ?_
  refine Cal.z (c_isView c1 (by rw [List.length_append]; exact Nat.lt_succ_self _) k1 ?_)
  cases c : isV (gD S ++ [x]) (gD S).length with
  | true =>
    refine go ok_X8_keep ?_
    refine And.intro (fun c2 => absurd c2 (by decide)) (fun c2 => ?_)
    refine go ok_X8_keep ?_
    refine And.intro c1 ?_
    refine asAnd ?_
    rw [r1]
    refine And.intro p1 ?_
    refine asAnd ?_
    rw [r2]
    refine And.intro av1.1 ?_
    refine Cal.k 1 150 (c2 := 0) (s2 := 0) rfl rfl (j_add av1 (by rw [vwA_len]; omega) (Or.inr ⟨by omega, Or.inl c1⟩) (fun h2 hA2 af2 hz2 => ?_))
    refine goN 1 ok_X8_keep ?_
    refine fin h2 af2 ?_ 0 0
    rw [vws_snoc, if_pos (by rw [ex1, decide_eq_true rfl, c]; rfl)]
    unfold vwA at *
    rw [List.map_append, show List.map (gN (gLa G ++ [a])) (vws (gD S) p) = List.map (gN (gLa G)) (vws (gD S) p) from vwA_l vin]
    rw [show List.map (gN (gLa G ++ [a])) [(gD S).length] = [a] by show [gN (gLa G ++ [a]) (gD S).length] = [a]; rw [← ell, gN_snoc_e]]
    exact hA2
  | false =>
    refine go ok_X8_keep ?_
    refine And.intro (fun c2 => ?_) (fun c2 => absurd c2 (by decide))
    refine fin h1 (AF.self _ h1) ?_ _ _
    rw [vws_snoc, if_neg (by rw [c, Bool.and_false]; decide), vwA_l vin]
    exact av1
end C50

