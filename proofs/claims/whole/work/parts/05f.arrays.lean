/-! ===== rows ===== -/
theorem map_get {α β : Type} (f : α → β) {L : List α} {i : Nat} (d : α) (h : i < L.length) : (L.map f)[i]? = some (f (L.getD i d)) := by
  rw [List.getElem?_map, List.getElem?_eq_getElem h, List.getD_eq_getElem?_getD, List.getElem?_eq_getElem h]
  rfl
section Arrays
variable {l : Launch} {w : WD} {lm : Bool} {X : MD} {d : Nat} {Q : Option AV → AH → Prop} {pc : Nat} {ll : List (Option AV)} {rest : List AV} {h : AH} {bc bs a : Nat} {j : Int32}
theorem rvR {w : WD} {a : Nat} (ha : 32 ≤ a) : (rv w (.inr (.inr a)) : Value) = .ref (rho w a) := rvr_pos w (by omega)
theorem so_iald (hd : decode X.1.2.1 pc = .ok (.iaload, 1)) (hix : ixI h a j) (k : Ex l w lm X d Q (pc + 1) ll (.inl ((aI h a).getD j.toNatClampNeg 0) :: rest) h bc bs) : Ex l w lm X d Q pc ll (.inl j :: .inr (.inr a) :: rest) h bc bs := by
  refine Ex.pure (fun p e R s m args below meth c H locs cells slots Z ls hC hL _ _ _ _ hS hva _ kk => ?_) k
  obtain ⟨hc, hix⟩ := hix
  rcases hc with hc | hc
  · obtain ⟨h32, -, hcell⟩ := hS.arrI hc
    rw [List.map_cons, List.map_cons, rvR h32]
    exact W.iald hC.x hC.b hcell (isArr hC.k.tab (k := 0) rfl _) (fun h => by cases h) (by rw [arrL_size, List.length_map]; exact hix) (arrL_get (map_get Value.int 0 (ixIn_lt hix).2)) rfl rfl hd kk
  · obtain ⟨rfl, b3⟩ := hS.scr hc
    obtain ⟨scr, g1, g2, g3, g4, g5⟩ := hC.k.scr.2
    have g1' : H[wX w 26]? = some scr := (hva.low hC.k.base (hC.k.ext (by decide))).trans g1
    have e1 : (rv w (.inr (.inr 26)) : Value) = .ref (wX w 26) := by
      show rvr w 26 = _
      rw [rvr_pos w (by omega), rho_ext w (by omega)]
    rw [b3] at hix kk
    rw [List.map_cons, List.map_cons, e1]
    exact W.iald hC.x hC.b g1' g2 g3 (by rw [g4]; exact hix) (g5 _ (ixIn_lt hix).2) rfl rfl hd kk
theorem so_lald (hd : decode X.1.2.1 pc = .ok (.laload, 1)) (hc : hC h a = 102) (hix : ixIn j (aL h a).length) (k : Ex l w lm X d Q (pc + 1) ll (.inr (.inl ((aL h a).getD j.toNatClampNeg 0)) :: rest) h bc bs) : Ex l w lm X d Q pc ll (.inl j :: .inr (.inr a) :: rest) h bc bs := by
  refine Ex.pure (fun p e R s m args below meth c H locs cells slots Z ls hC hL _ _ _ _ hS _ _ kk => ?_) k
  obtain ⟨h32, -, hcell⟩ := hS.arrJ hc
  rw [List.map_cons, List.map_cons, rvR h32]
  exact W.lald hC.x hC.b hcell (isArr hC.k.tab (k := 1) rfl _) (fun h => by cases h) (by rw [arrL_size, List.length_map]; exact hix) (arrL_get (map_get Value.long 0 (ixIn_lt hix).2)) rfl rfl hd kk
theorem sBytes_len : ∀ i, i < 11 → (sBytes.getD i []).length = sLens.getD i 0 := by decide
theorem so_bald (hd : decode X.1.2.1 pc = .ok (.baload, 1)) (hc : hC h a = 103 ∨ hC h a = 105) (hix : ixIn j (aI h a).length) (k : Ex l w lm X d Q (pc + 1) ll (.inl ((aI h a).getD j.toNatClampNeg 0) :: rest) h bc bs) : Ex l w lm X d Q pc ll (.inl j :: .inr (.inr a) :: rest) h bc bs := by
  refine Ex.pure (fun p e R s m args below meth c H locs cells slots Z ls hC hL _ _ _ _ hS hva _ kk => ?_) k
  rcases hc with hc | hc
  · obtain ⟨h32, -, hcell⟩ := hS.arrB hc
    rw [List.map_cons, List.map_cons, rvR h32]
    exact W.zald hC.x hC.b hcell (isArr hC.k.tab (k := 2) rfl _) (fun h => by cases h) (by rw [arrL_size, List.length_map]; exact hix) (arrL_get (map_get Value.int 0 (ixIn_lt hix).2)) rfl rfl hd kk
  · obtain ⟨b1, b2, b3⟩ := hS.byt hc
    obtain ⟨cell, g1, g2, g3, g4, g5, g6, g7⟩ := (hC.k.2.1.1 (a - 13) (by omega)).2.2.2
    have e0 : wX w (13 + (a - 13)) = wX w a := by congr 1; omega
    dsimp only at g1
    rw [e0] at g1
    have g1' : H[wX w a]? = some cell := (hva.low hC.k.base (hC.k.ext (by omega))).trans g1
    have e1 : (rv w (.inr (.inr a)) : Value) = .ref (wX w a) := by
      show rvr w a = _
      rw [rvr_pos w (by omega), rho_ext w (by omega)]
    rw [List.map_cons, List.map_cons, e1]
    have hlt : j.toNatClampNeg < sLens.getD (a - 13) 0 := by rw [← sBytes_len _ (by omega), ← b3]; exact (ixIn_lt hix).2
    refine W.bald hC.x hC.b g1' g2 g3 (fun q => ?_) (g6 _ hlt) rfl rfl hd ?_
    · rcases q with q | q
      · exact (ixIn_lt hix).1 q
      · omega
    · rw [List.map_cons] at kk
      rw [← b3]
      exact kk
theorem so_aald (hd : decode X.1.2.1 pc = .ok (.aaload, 1)) (hc : hC h a = 104) (hix : ixIn j (aR h a).length) (k : Ex l w lm X d Q (pc + 1) ll (.inr (.inr ((aR h a).getD j.toNatClampNeg 0)) :: rest) h bc bs) : Ex l w lm X d Q pc ll (.inl j :: .inr (.inr a) :: rest) h bc bs := by
  refine Ex.pure (fun p e R s m args below meth c H locs cells slots Z ls hC hL _ _ _ _ hS hva _ kk => ?_) k
  rcases hS.arrO hc with ⟨h32, -, hcell⟩ | ⟨-, b2⟩
  · rw [List.map_cons, List.map_cons, rvR h32]
    exact W.aald hC.x hC.b hcell (isArr hC.k.tab (k := 3) rfl _) rfl (fun h => by cases h) (by rw [arrL_size, List.length_map]; exact hix) (arrL_get (map_get (rvr w) 0 (ixIn_lt hix).2)) rfl rfl hd kk
  · rw [b2] at hix
    exact absurd (ixIn_lt hix).2 (Nat.not_lt_zero _)
theorem so_alen (hd : decode X.1.2.1 pc = .ok (.arraylength, 1)) {N : List AV → Prop} (hN : ∀ st', N st' → Ex l w lm X d Q (pc + 1) ll st' h bc bs)
    (ha : (hC h a = 101 ∧ N (.inl (nI (aI h a).length) :: rest)) ∨ (hC h a = 104 ∧ N (.inl (nI (aR h a).length) :: rest)) ∨ ((hC h a = 105 ∨ hC h a = 106) ∧ N (.inl (nI (aI h a).length) :: rest))) : Ex l w lm X d Q pc ll (.inr (.inr a) :: rest) h bc bs := by
  rcases ha with ⟨hc, ha⟩ | ⟨hc, ha⟩ | ⟨hc, ha⟩
  · refine Ex.pure (fun p e R s m args below meth c H locs cells slots Z ls hC hL _ _ _ _ hS hva _ kk => ?_) (hN _ ha)
    obtain ⟨h32, -, hcell⟩ := hS.arrI hc
    rw [List.map_cons, rvR h32]
    exact W.alen hC.x hC.b hcell (isArr hC.k.tab (k := 0) rfl _) (by rw [arrL_size, List.length_map]; rfl) rfl rfl hd kk
  · refine Ex.pure (fun p e R s m args below meth c H locs cells slots Z ls hC hL _ _ _ _ hS hva _ kk => ?_) (hN _ ha)
    rcases hS.arrO hc with ⟨h32, -, hcell⟩ | ⟨b1, b2⟩
    · rw [List.map_cons, rvR h32]
      exact W.alen hC.x hC.b hcell (isArr hC.k.tab (k := 3) rfl _) (by rw [arrL_size, List.length_map]; rfl) rfl rfl hd kk
    · subst b1
      have e1 : (rv w (.inr (.inr 1)) : Value) = .ref (wX w 1) := by
        show rvr w 1 = _
        rw [rvr_pos w (by omega), rho_ext w (by omega)]
      obtain ⟨⟨cell, g1, g2, g3, g4, g5⟩, g6⟩ := hC.k.2.2.2.2.1
      have hcell : H[wX w 1]? = some cell := (hva.low hC.k.base g6).trans g1
      rw [List.map_cons, e1]
      rw [b2] at kk
      exact W.alen (ty := .object "java/lang/Object") hC.x hC.b hcell ⟨g4, by rw [g2]; exact ((hC.k.tab.2 3 _ rfl).1 0 (fun _ => .null)).2⟩ (show cell.slots.size.toInt32 = nI ([] : List Nat).length from g5) rfl rfl hd kk
  · refine Ex.pure (fun p e R s m args below meth c H locs cells slots Z ls hC hL _ _ _ _ hS hva _ kk => ?_) (hN _ ha)
    rcases hc with hc | hc
    case inr =>
      obtain ⟨rfl, b3⟩ := hS.scr hc
      obtain ⟨scr, g1, g2, g3, g4, g5⟩ := hC.k.scr.2
      have g1' : H[wX w 26]? = some scr := (hva.low hC.k.base (hC.k.ext (by decide))).trans g1
      have e1 : (rv w (.inr (.inr 26)) : Value) = .ref (wX w 26) := by
        show rvr w 26 = _
        rw [rvr_pos w (by omega), rho_ext w (by omega)]
      rw [b3] at kk
      rw [List.map_cons, e1]
      exact W.alen hC.x hC.b g1' g2 (by rw [g4]; rfl) rfl rfl hd kk
    obtain ⟨b1, b2, b3⟩ := hS.byt hc
    obtain ⟨cell, g1, g2, g3, g4, g5, g6, g7⟩ := (hC.k.2.1.1 (a - 13) (by omega)).2.2.2
    have e0 : wX w (13 + (a - 13)) = wX w a := by congr 1; omega
    dsimp only at g1
    rw [e0] at g1
    have g1' : H[wX w a]? = some cell := (hva.low hC.k.base (hC.k.ext (by omega))).trans g1
    have e1 : (rv w (.inr (.inr a)) : Value) = .ref (wX w a) := by
      show rvr w a = _
      rw [rvr_pos w (by omega), rho_ext w (by omega)]
    rw [List.map_cons, e1]
    have e2 : (aI h a).length = sLens.getD (a - 13) 0 := by rw [b3, sBytes_len _ (by omega)]
    rw [e2] at kk
    exact W.alen hC.x hC.b g1' g2 g5 rfl rfl hd kk
theorem Sim.tIown {H H' : Heap} {v : List Int32} {t : Nat} {cA : ClassId} (hv : v.length = (aI h a).length) (hS : Sim w lm h H) (h32 : 32 ≤ a) (ht : (hC h a = 101 ∧ cA = wA w 0) ∨ (hC h a = 103 ∧ cA = wA w 2)) (e : H'[rho w a]? = some (arrL cA (v.map Value.int))) (z : H'.size = H.size) (oq : ∀ q, q ≠ rho w a → H'[q]? = H[q]?) : Sim w lm (tI h a v) H' := by
  have e2 : aI (tI h a v) a = v := up1_eq
  refine hS.upd (fun _ => lay_tI hv) h32 rfl (fun _ => rfl) z oq (fun n hn => tI_same hn) ?_
  rcases ht with ⟨ht, rfl⟩ | ⟨ht, rfl⟩
  · exact Or.inr (Or.inl ⟨ht, by rw [e2]; exact e⟩)
  · exact Or.inr (Or.inr (Or.inr (Or.inl ⟨ht, by rw [e2]; exact e⟩)))
theorem so_iast {x : Int32} (hd : decode X.1.2.1 pc = .ok (.iastore, 1)) (hc : hC h a = 101) (hix : ixIn j (aI h a).length) (k : Ex l w lm X d Q (pc + 1) ll rest (tI h a ((aI h a).set j.toNatClampNeg x)) bc bs) : Ex l w lm X d Q pc ll (.inl x :: .inl j :: .inr (.inr a) :: rest) h bc bs := by
  intro p e R s m args below meth c H locs cells slots ls hC hf hl hcl hsl0 hS hL hlen hva
  obtain ⟨h32, -, hcell⟩ := hS.arrI hc
  rw [List.map_cons, List.map_cons, List.map_cons, rvR h32]
  refine W.iast hC.x hC.b hcell (isArr hC.k.tab (k := 0) rfl _) (fun h => by cases h) (by rw [arrL_size, List.length_map]; exact hix) rfl rfl hd (fun H' z1 z2 z3 => ?_)
  rw [arrL_set, show (Value.int x) = Value.int x from rfl, ← List.map_set] at z1
  exact k p e R s m args below meth c H' _ cells slots ls hC hf hl hcl hsl0 (Sim.tIown (t := 0) (by simp) hS h32 (Or.inl ⟨hc, rfl⟩) z1 z2 z3) hL hlen (hva.put z2 z3 (Sim.addr (h := h) (H := H) h32))
theorem so_bast {x : Int32} (hd : decode X.1.2.1 pc = .ok (.bastore, 1)) (hc : hC h a = 103) (hix : ixIn j (aI h a).length) (hx : x = 0 ∨ x = 1) (k : Ex l w lm X d Q (pc + 1) ll rest (tI h a ((aI h a).set j.toNatClampNeg x)) bc bs) : Ex l w lm X d Q pc ll (.inl x :: .inl j :: .inr (.inr a) :: rest) h bc bs := by
  intro p e R s m args below meth c H locs cells slots ls hC hf hl hcl hsl0 hS hL hlen hva
  obtain ⟨h32, -, hcell⟩ := hS.arrB hc
  rw [List.map_cons, List.map_cons, List.map_cons, rvR h32]
  refine W.zast hC.x hC.b hcell (isArr hC.k.tab (k := 2) rfl _) (fun h => by cases h) (by rw [arrL_size, List.length_map]; exact hix) rfl rfl hd (fun H' z1 z2 z3 => ?_)
  have e0 : narrow .boolean (.int x) = .int x := by rcases hx with rfl | rfl <;> rfl
  rw [e0, arrL_set, ← List.map_set] at z1
  exact k p e R s m args below meth c H' _ cells slots ls hC hf hl hcl hsl0 (Sim.tIown (t := 0) (by simp) hS h32 (Or.inr ⟨hc, rfl⟩) z1 z2 z3) hL hlen (hva.put z2 z3 (Sim.addr (h := h) (H := H) h32))
theorem so_last {x : Int64} (hd : decode X.1.2.1 pc = .ok (.lastore, 1)) (hc : hC h a = 102) (hix : ixIn j (aL h a).length) (k : Ex l w lm X d Q (pc + 1) ll rest (tL h a ((aL h a).set j.toNatClampNeg x)) bc bs) : Ex l w lm X d Q pc ll (.inr (.inl x) :: .inl j :: .inr (.inr a) :: rest) h bc bs := by
  intro p e R s m args below meth c H locs cells slots ls hC hf hl hcl hsl0 hS hL hlen hva
  obtain ⟨h32, -, hcell⟩ := hS.arrJ hc
  rw [List.map_cons, List.map_cons, List.map_cons, rvR h32]
  refine W.last hC.x hC.b hcell (isArr hC.k.tab (k := 1) rfl _) (fun h => by cases h) (by rw [arrL_size, List.length_map]; exact hix) rfl rfl hd (fun H' z1 z2 z3 => ?_)
  rw [arrL_set, ← List.map_set] at z1
  have hS' : Sim w lm (tL h a ((aL h a).set j.toNatClampNeg x)) H' := by
    have e2 : aL (tL h a ((aL h a).set j.toNatClampNeg x)) a = (aL h a).set j.toNatClampNeg x := up1_eq
    exact hS.upd (fun _ => lay_tL (by simp)) h32 rfl (fun _ => rfl) z2 z3 (fun n hn => tL_same hn) (Or.inr (Or.inr (Or.inl ⟨hc, by rw [e2]; exact z1⟩)))
  exact k p e R s m args below meth c H' _ cells slots ls hC hf hl hcl hsl0 hS' hL hlen (hva.put z2 z3 (Sim.addr (h := h) (H := H) h32))
theorem Sim.tRown {H H' : Heap} {v : List Nat} (hS : Sim w lm h H) (h32 : 32 ≤ a) (ht : hC h a = 104) (e : H'[rho w a]? = some (arrL (wA w 3) (v.map (rvr w)))) (z : H'.size = H.size) (oq : ∀ q, q ≠ rho w a → H'[q]? = H[q]?) : Sim w lm (tR h a v) H' := by
  have e2 : aR (tR h a v) a = v := up1_eq
  exact hS.upd (fun _ hy => hy) h32 rfl (fun _ => rfl) z oq (fun n hn => tR_same hn) (Or.inr (Or.inr (Or.inr (Or.inr ⟨ht, by rw [e2]; exact e⟩))))
/-- an element of a row of references: the machine may store it -/
theorem any_el {H : Heap} {s : State} {x : Nat} (hS : Sim w lm h H) (hK : WK w s) (hx : 32 ≤ x ∧ (hC h x = 3 ∨ hC h x = 4)) : va_Any "java/lang/Object" s H (rho w x) := by
  have go : ∀ (ci : Nat) (r : vw_C), hC h x = ci + 1 → vwCl[ci]? = some r → Cond.castable r.1 "java/lang/Object" ∈ lw_tbl → va_Any "java/lang/Object" s H (rho w x) := by
    intro ci r hc hr hw
    obtain ⟨-, -, cell, g1, g2, g3, -⟩ := hS.obj hc hr
    have h1 := (hK.tab.1 ci r hr).2
    obtain ⟨c0, t0, k1, k2, k3⟩ := Cond.castable_spec (hK.2.2.2.2.2.2.2.2.2.2.1 _ hw rfl)
    obtain ⟨kC, hkC, -⟩ := h1.2
    refine ⟨cell, g1, by rw [g3]; rfl, ⟨kC, by rw [g2]; exact hkC⟩, fun comp hcomp => ?_⟩
    have e1 : c0 = cell.cls := by rw [g2]; exact Option.some.inj (k1.symm.trans h1.1)
    have e2 : t0 = comp := Option.some.inj (k2.symm.trans hcomp)
    rw [← e1, ← e2]
    exact k3
  rcases hx.2 with hc | hc
  · exact go 2 _ hc rfl castLook
  · exact go 3 _ hc rfl castPage
theorem so_aast {x : Nat} (hd : decode X.1.2.1 pc = .ok (.aastore, 1)) (hc : hC h a = 104) (h32 : 32 ≤ a) (hx : eOK h x) (hix : ixIn j (aR h a).length) (k : Ex l w lm X d Q (pc + 1) ll rest (tR h a ((aR h a).set j.toNatClampNeg x)) bc bs) : Ex l w lm X d Q pc ll (.inr (.inr x) :: .inl j :: .inr (.inr a) :: rest) h bc bs := by
  intro p e R s m args below meth c H locs cells slots ls hC hf hl hcl hsl0 hS hL hlen hva
  have hcell : H[rho w a]? = some (arrL (wA w 3) ((aR h a).map (rvr w))) := by
    rcases hS.arrO hc with ⟨-, -, hcell⟩ | ⟨q, -⟩
    · exact hcell
    · omega
  have hlt := ixIn_lt hix
  rw [List.map_cons, List.map_cons, List.map_cons, rvR h32]
  have fin : ∀ H' : Heap, H'[rho w a]? = some ((arrL (wA w 3) ((aR h a).map (rvr w))).setSlot j.toNatClampNeg (rvr w x)) → H'.size = H.size → (∀ q, q ≠ rho w a → H'[q]? = H[q]?) → W p l e R s m args below meth c H' (locs ++ [⟨rho w a, j.toNatClampNeg⟩]) cells slots (MQ below (qcD w lm Q) args s R.cells R.slots (wO w)) (F0 m (pc + 1) ls (rest.map (rv w))) := by
    intro H' z1 z2 z3
    rw [arrL_set, ← List.map_set] at z1
    exact k p e R s m args below meth c H' _ cells slots ls hC hf hl hcl hsl0 (hS.tRown h32 hc z1 z2 z3) hL hlen (hva.put z2 z3 (Sim.addr (h := h) (H := H) h32))
  rcases hx with rfl | hx
  · exact va_WaastN (C := "java/lang/Object") hC.x hC.b hcell (isArr hC.k.tab (k := 3) rfl _) (fun h => by cases h) (by rw [arrL_size, List.length_map]; exact hix) rfl rfl hd fin
  · have e3 : (rv w (.inr (.inr x)) : Value) = .ref (rho w x) := rvR hx.1
    obtain ⟨cellV, g1, g3, ⟨kC, hkC⟩, hasg⟩ := any_el hS hC.k hx
    obtain ⟨kA, comp, k1, k2, k3, -⟩ := (hC.k.tab.2 3 _ rfl).2
    obtain ⟨kE, hkE, -⟩ := Vm.findClass_spec k3
    rw [e3]
    have e4 : rvr w x = .ref (rho w x) := e3
    rw [e4] at fin
    exact W.aast hC.x hC.b hcell (fun q h => by cases h) (fun h => by cases h) k1 k2 rfl hkE ⟨hlt.1, by rw [arrL_size, List.length_map]; exact hlt.2⟩ g1 (fun q h => by rw [h] at g3; cases g3) hkC (hasg _ k3) rfl rfl hd fin
end Arrays
