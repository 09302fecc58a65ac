/-! ===== the class: look, what it keeps ===== -/
theorem lkD_l {D : List LK} {x : LK} {i : Nat} (hi : i < D.length) : lkD (D ++ [x]) i = lkD D i := getD_snoc_l hi
theorem lkD_e {D : List LK} {x : LK} : lkD (D ++ [x]) D.length = x := getD_snoc_e
theorem vws_snoc {D : List LK} {x : LK} (p : Nat) : vws (D ++ [x]) p = if (decide (x.1 = p) && isV (D ++ [x]) D.length) = true then vws D p ++ [D.length] else vws D p := by
  have e : vwsUp (D ++ [x]) p D.length = vws D p := by
    unfold vwsUp vws
    apply List.filter_congr
    intro i hi
    have hi := List.mem_range.mp hi
    unfold isV pgD kdD
    rw [lkD_l hi, List.length_append, decide_eq_true (show i < D.length + [x].length by omega), decide_eq_true hi]
  have e2 : vws (D ++ [x]) p = vwsUp (D ++ [x]) p (D.length + 1) := by
    unfold vws vwsUp
    rw [List.length_append]
    rfl
  rw [e2, vwsUp_s, e, show pgD (D ++ [x]) D.length = x.1 by unfold pgD; rw [lkD_e]]
theorem klR_l {ds : List Int32} {D : List LK} {x : LK} {k : Nat} : ∀ n, n ≤ D.length → klR ds (D ++ [x]) k n = klR ds D k n := by
  intro n
  induction n with
  | zero => intro _; rfl
  | succ n ih =>
    intro hn
    rw [klR, klR, ih (by omega)]
    unfold pgD hrD
    rw [lkD_l (by omega)]
theorem vwA_l {la L : List Nat} {a : Nat} (hL : ∀ j, j ∈ L → j < la.length) : vwA (la ++ [a]) L = vwA la L := by
  unfold vwA
  apply List.map_congr_left
  intro j hj
  exact gN_snoc_l (hL j hj)
section C47
variable {l : Launch} {w : WD} {d : Nat} {h h' h1 h2 : AH} {Q : Option AV → AH → Prop} {S S' : SG} {G G' : GH} {b a : Nat} {L : List Nat}
/-- a look's cell -/
def NLk (h : AH) (a : Nat) (n : Nat) (pa : Nat) (x : LK) : Prop := (hC h a = 3 ∧ 88 ≤ a) ∧ hI h 128 a = nI n ∧ hR h 129 a = pa ∧ hI h 130 a = x.2.1 ∧ hI h 131 a = x.2.2.1 ∧ hI h 132 a = x.2.2.2.2 ∧ hL h 133 a = x.2.2.2.1 ∧ hI h 134 a = 0
theorem LKc.snoc {D : List LK} {pa la : List Nat} {x : LK} (hA : LKc D pa la h) (na : NLk h a D.length (gN pa x.1) x) (hk : ¬ x.2.2.1 = 3) : LKc (D ++ [x]) pa (la ++ [a]) h := by
  have el : (D ++ [x]).length = D.length + 1 := by rw [List.length_append]; rfl
  refine ⟨by rw [List.length_append, el, hA.1]; rfl, fun i hi => ?_⟩
  rw [el] at hi
  by_cases c : i = D.length
  · subst c
    have e : gN (la ++ [a]) D.length = a := by rw [← hA.1]; exact gN_snoc_e
    unfold kdC dtC kdD dtD stD pgD hrD
    rw [e, lkD_e, if_neg hk, if_neg hk, decide_eq_false hk]
    exact na
  · have e : gN (la ++ [a]) i = gN la i := gN_snoc_l (by rw [hA.1]; omega)
    have := hA.2 i (by omega)
    unfold kdC dtC kdD dtD stD pgD hrD at *
    rw [e, lkD_l (by omega)]
    exact this
/-- the heap behind a look that was kept -/
def kpH (h : AH) (dk : Nat) (now : Int32) (hs : List Int64) : AH := tL (tI h 35 ((aI h 35).set dk now)) 53 hs
theorem RC.lkn (hc : RC S G h) (hv : Inv S) (hy : Lay h) (ho : ∀ n, ¬ hC h n = 0 → n < hZ h) {p dk : Nat} (hp : p < (gDs S).length) (hdk : dk < 6) (ed : (gDs S).getD p 0 = nI dk) {x : LK} (ex1 : x.1 = p) (ex2 : x.2.1 = gNw S) (hk3 : ¬ x.2.2.1 = 3) (na : NLk h a (gD S).length (gN (gPa G) p) x) (af1 : AF 34 h h1) (hA1 : AL h1 34 (gLa G ++ [a])) (ho1 : ∀ n, ¬ hC h1 n = 0 → n < hZ h1) (hz1 : hZ h ≤ hZ h1) (af2 : AF (hR h 194 (gN (gPa G) p)) h1 h2) (av2 : AL h2 (hR h 194 (gN (gPa G) p)) (vwA (gLa G ++ [a]) (vws (gD S ++ [x]) p))) {hs : List Int64} : RC (sHs (sD S (gD S ++ [x])) hs) (G.1, gLa G ++ [a], G.2.2.1, ownR (ownR G.2.2.2.1 (hZ h) 34) (hZ h1) (hR h 194 (gN (gPa G) p)), G.2.2.2.2) (kpH h2 dk (gNw S) hs) ∧ OX h (kpH h2 dk (gNw S) hs) ∧ hI (kpH h2 dk (gNw S) hs) 128 a = nI (gD S).length := by
  have hz := hy.1
  have ell := hc.lks.1
  have az := ho a (by rw [na.1.1]; decide)
  have a88 := na.1.2
  have fz : ∀ {n}, ft h n → n < hZ h := fun hf => RC.fz hy ho hf
  have iv : ∀ p, p < (gDs S).length → isLs S G h (hR h 194 (gN (gPa G) p)) := fun p hp => Or.inr (Or.inr (Or.inr ⟨p, hp, rfl⟩))
  have i34 : isLs S G h 34 := Or.inr (Or.inl rfl)
  have v1 : hC h (hR h 194 (gN (gPa G) p)) = 1 := (hc.pgs.2.2 _ hp).2.2.2.1.1
  have v88 := (hc.ow.1 p hp).2
  have ivp := iv p hp
  have vz := ho _ (show ¬ hC h (hR h 194 (gN (gPa G) p)) = 0 by omega)
  have vvp := fun c hcp hne => hc.vv (a := c) hcp hp hne
  generalize ev : hR h 194 (gN (gPa G) p) = v at *
  have ls : ∀ c, isLs S G h c → ∃ L, AL h c L := fun c hcl => by
    rcases hcl with z | z | z | ⟨p, hp, z⟩
    · exact ⟨_, z ▸ hc.pg⟩
    · exact ⟨_, z ▸ hc.lk⟩
    · exact ⟨_, z ▸ hc.wh⟩
    · exact ⟨_, z ▸ (hc.pgs.2.2 p hp).2.2.2.1⟩
  have lz : ∀ c, isLs S G h c → c < hZ h ∧ hR h 1 c < hZ h := fun c hcl => by
    obtain ⟨L, hL⟩ := ls c hcl
    exact ⟨ho c (by rw [hL.1]; decide), ho _ (by rw [hL.2.2.1]; decide)⟩
  have r1 : ∀ c, isLs S G h c → ¬ c = 34 → hR h1 1 c = hR h 1 c := fun c hcl hne => af1.2.2.2.1 1 c (by have := lz c hcl; omega) (fun y => hne y.2)
  have kp : ∀ c L, AL h2 c L → AL (kpH h2 dk (gNw S) hs) c L := fun c L hL => hL.cg rfl rfl rfl rfl
  have tr : ∀ c L, isLs S G h c → ¬ c = 34 → ¬ c = v → AL h c L → AL (kpH h2 dk (gNw S) hs) c L := fun c L hcl n1 n2 hL => by
    have y := hL.af af1 n1 ho (hc.row i34 hcl n1)
    refine kp c L (y.af af2 n2 ho1 ?_)
    rw [r1 c hcl n1, r1 v ivp (by omega)]
    exact hc.row ivp hcl n2
  have e34 : AL (kpH h2 dk (gNw S) hs) 34 (gLa G ++ [a]) := by
    refine kp _ _ (hA1.af af2 (by omega) ho1 ?_)
    rw [r1 v ivp (by omega)]
    rcases af1.2.2.2.2.2.2.2.2 with z | z
    · rw [z]; exact hc.row ivp i34 (by omega)
    · rw [z]; have := (lz v ivp).2; omega
  have n0 : ∀ {n}, n < hZ h → ¬ n = hZ h := fun hn => by omega
  have n1 : ∀ {n}, n < hZ h → ¬ n = hZ h1 := fun hn => by omega
  have eI : ∀ f n, n < hZ h → ¬ (f = 0 ∨ f = 2) → hI (kpH h2 dk (gNw S) hs) f n = hI h f n := fun f n hf hn2 => by
    show hI h2 f n = _
    rw [af2.2.1 f n (n1 hf) (fun z => hn2 z.1), af1.2.1 f n (n0 hf) (fun z => hn2 z.1)]
  have eL : ∀ f n, n < hZ h → hL (kpH h2 dk (gNw S) hs) f n = hL h f n := fun f n hf => by
    show hL h2 f n = _
    rw [af2.2.2.1 f n (n1 hf), af1.2.2.1 f n (n0 hf)]
  have eR : ∀ f n, n < hZ h → ¬ f = 1 → hR (kpH h2 dk (gNw S) hs) f n = hR h f n := fun f n hf hn2 => by
    show hR h2 f n = _
    rw [af2.2.2.2.1 f n (n1 hf) (fun z => hn2 z.1), af1.2.2.2.1 f n (n0 hf) (fun z => hn2 z.1)]
  have eC : ∀ n, n < hZ h → hC (kpH h2 dk (gNw S) hs) n = hC h n := fun n hf => by
    show hC h2 n = _
    rw [af2.1 n (n1 hf), af1.1 n (n0 hf)]
  have ea2 : ∀ n, n < hZ h → aI h2 n = aI h n := fun n hf => by rw [af2.2.2.2.2.1 n (n1 hf), af1.2.2.2.2.1 n (n0 hf)]
  have ea : ∀ n, n < hZ h → ¬ n = 35 → aI (kpH h2 dk (gNw S) hs) n = aI h n := fun n hf hne => by
    unfold kpH
    rw [aI_tL, aI_tI, if_neg hne, ea2 n hf]
  have vin : ∀ p j, j ∈ vws (gD S) p → j < (gLa G).length := fun p j hj => by rw [ell]; exact List.mem_range.mp (List.mem_filter.mp hj).1
  have win : ∀ j, j ∈ gWh S → j < (gLa G).length := fun j hj => by
    obtain ⟨i, hi, hij⟩ := List.mem_iff_getElem.mp hj
    have := hv.wh hi
    have e2 : gN (gWh S) i = j := by show (gWh S).getD i 0 = j; rw [List.getD_eq_getElem?_getD, List.getElem?_eq_getElem hi, hij]; rfl
    rw [e2] at this
    omega
  have lkz : ∀ i, i < (gD S).length → gN (gLa G) i < hZ h := fun i hi => ho _ (by rw [(hc.lks.2 i hi).1.1]; decide)
  refine ⟨hc.gen (fun n hf => eC n (fz hf)) (fun f n hf _ h2 => eI f n (fz hf) h2) (fun f n hf _ => eL f n (fz hf)) (fun f n hf _ h2 => eR f n (fz hf) h2) (fun n hf hne => ea n (fz hf) hne) (fun n hn => ?_) hy rfl rfl rfl rfl rfl rfl rfl rfl rfl
    (tr 33 _ (Or.inl rfl) (by decide) (by omega) hc.pg) e34 ?_ (fun c hcp => ?_) ?_ ?_ ?_ (fun c hcl => ?_), ?_, ?_⟩
  · show aR h2 n = _
    rw [af2.2.2.2.2.2.2.1 n (by omega) (by omega), af1.2.2.2.2.2.2.1 n (by omega) (by omega)]
  · show AL _ 39 (vwA (gLa G ++ [a]) (gWh S))
    rw [vwA_l win]
    exact tr 39 _ (Or.inr (Or.inr (Or.inl rfl))) (by decide) (by omega) hc.wh
  · show AL _ _ (vwA (gLa G ++ [a]) (vws (gD S ++ [x]) c))
    by_cases e : c = p
    · rw [e, ev]; exact kp _ _ av2
    · rw [vws_snoc, if_neg (by rw [decide_eq_false (fun z => e (by rw [← z, ex1])), Bool.false_and]; decide), vwA_l (vin c)]
      exact tr _ _ (iv c hcp) (hc.vne hcp (by decide)) (vvp c hcp e) (hc.pgs.2.2 c hcp).2.2.2.1
  · have e0 : LKc (gD S) (gPa G) (gLa G) (kpH h2 dk (gNw S) hs) := by
      refine ⟨hc.lks.1, fun i hi => ?_⟩
      have y := lkz i hi
      rw [eC _ y, eI 128 _ y (by omega), eR 129 _ y (by omega), eI 130 _ y (by omega), eI 131 _ y (by omega), eI 132 _ y (by omega), eL 133 _ y, eI 134 _ y (by omega)]
      exact hc.lks.2 i hi
    refine e0.snoc ?_ hk3
    unfold NLk
    rw [eC _ az, eI 128 _ az (by omega), eR 129 _ az (by omega), eI 130 _ az (by omega), eI 131 _ az (by omega), eI 132 _ az (by omega), eL 133 _ az, eI 134 _ az (by omega), ex1]
    exact na
  · intro k hk
    show (aI (kpH h2 dk (gNw S) hs) 35).getD k 0 = klR (gDs S) (gD S ++ [x]) k (gD S ++ [x]).length
    rw [show (gD S ++ [x]).length = (gD S).length + 1 by rw [List.length_append]; rfl, klR, klR_l _ (Nat.le_refl _)]
    unfold pgD hrD kpH
    rw [lkD_e, ex1, ex2, ed, aI_tL, aI_tI, if_pos rfl, getD_set, ea2 35 (by omega), yn35 hy]
    by_cases c : k = dk
    · rw [if_pos ⟨c, by omega⟩, if_pos (by rw [c])]
    · rw [if_neg (fun z => c z.1), if_neg (fun z => c ((nI_eq (by omega) (by omega)).1 z).symm)]
      exact hc.kn k hk
  · unfold kpH
    rw [aL_tL, if_pos rfl]
    rfl
  · obtain ⟨b1, b2⟩ := lz c hcl
    show hR h2 1 c = 1 ∨ (if hR h2 1 c = hZ h1 then v else if hR h2 1 c = hZ h then 34 else G.2.2.2.1 (hR h2 1 c)) = c
    have gg : ∀ r, r = hR h 1 c → r = 1 ∨ (if r = hZ h1 then v else if r = hZ h then 34 else G.2.2.2.1 r) = c := fun r hr => by
      rw [hr, if_neg (by omega), if_neg (by omega)]
      exact hc.ow.2.1 c hcl
    by_cases e1 : c = v
    · rcases af2.2.2.2.2.2.2.2.2 with z | z
      · exact gg _ (by rw [e1, z, r1 v ivp (by omega)])
      · right; rw [e1, z, if_pos rfl]
    · have e2 : hR h2 1 c = hR h1 1 c := af2.2.2.2.1 1 c (by omega) (fun y => e1 y.2)
      by_cases e3 : c = 34
      · rcases af1.2.2.2.2.2.2.2.2 with z | z
        · exact gg _ (by rw [e2, e3, z])
        · have := ho1 (hR h1 1 34) (by rw [hA1.2.2.1]; decide)
          right
          rw [e2, e3, z, if_neg (by omega), if_pos rfl]
      · exact gg _ (by rw [e2]; exact r1 c hcl e3)
  · exact ⟨fun f hf => ⟨eI f 62 (by omega) (by omega), eL f 62 (by omega)⟩, fun y h1 h2 => ⟨ea y (by omega) (by omega), by unfold kpH; rw [aL_tL, if_neg (by omega), aL_tI, af2.2.2.2.2.2.1 y (by omega), af1.2.2.2.2.2.1 y (by omega)]⟩⟩
  · rw [eI 128 a az (by omega)]; exact na.2.1
end C47

