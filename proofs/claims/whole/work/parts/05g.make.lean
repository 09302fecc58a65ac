/-! ===== new cells, copies ===== -/
theorem cpy_len {α : Type} {s d : List α} {sp dp n : Nat} (h1 : sp + n ≤ s.length) (h2 : dp + n ≤ d.length) : (cpy s d sp dp n).length = d.length := by
  unfold cpy
  simp only [List.length_append, List.length_take, List.length_drop]
  omega
theorem cpy_map {α β : Type} (f : α → β) (s d : List α) (sp dp n : Nat) : (cpy s d sp dp n).map f = cpy (s.map f) (d.map f) sp dp n := by
  unfold cpy
  simp
theorem cpy_get {α : Type} {s d : List α} {sp dp n j : Nat} (x : α) (h1 : sp + n ≤ s.length) (h2 : dp + n ≤ d.length) (hj : j < d.length) : (cpy s d sp dp n).getD j x = if dp ≤ j ∧ j < dp + n then s.getD (sp + (j - dp)) x else d.getD j x := by
  unfold cpy
  rw [List.getD_eq_getElem?_getD, List.getElem?_append, List.getElem?_append]
  simp only [List.length_append, List.length_take, List.length_drop]
  split
  · rename_i h3
    split
    · rename_i h4
      rw [if_neg (by omega), List.getElem?_take, if_pos (by omega), ← List.getD_eq_getElem?_getD]
    · rename_i h4
      rw [if_pos (by omega), List.getElem?_take, if_pos (by omega), List.getElem?_drop, ← List.getD_eq_getElem?_getD]
      congr 1
      omega
  · rename_i h3
    rw [if_neg (by omega), List.getElem?_drop, ← List.getD_eq_getElem?_getD]
    congr 1
    omega
theorem copied_arrL {c0 c1 : ClassId} {vs vd : List Value} {sp dp n : Int32} (h4 : sp.toNatClampNeg + n.toNatClampNeg ≤ vs.length) (h5 : dp.toNatClampNeg + n.toNatClampNeg ≤ vd.length) : copied (arrL c0 vs) (arrL c1 vd) sp dp n = arrL c1 (cpy vs vd sp.toNatClampNeg dp.toNatClampNeg n.toNatClampNeg) := by
  rw [arrL_eq c0 vs, arrL_eq c1 vd, arrL_eq c1 (cpy _ _ _ _ _), cpy_len h4 h5]
  refine (va_copied (fun z => z) c0 c1 (fun j => vs.getD j .null) (fun j => vd.getD j .null) h4).trans ?_
  unfold arrV
  congr 1
  apply Array.ext
  · simp
  · intro i h1 h2
    have hi : i < vd.length := by simpa using h1
    simp only [Array.getElem_ofFn]
    rw [cpy_get .null h4 h5 hi]
    rfl
section Make
variable {l : Launch} {w : WD} {lm : Bool} {X : MD} {d : Nat} {Q : Option AV → AH → Prop} {pc : Nat} {ll : List (Option AV)} {st rest : List AV} {h : AH} {bc bs a : Nat}
theorem w_copy {p : Program} {e : Env} {R : Room} {s : State} {m : MethodId} {args : Array Value} {below : List Frame} {meth : Method} {c : Code} {H : Heap} {locs : List Loc} {cells slots : Nat} {Z : State → Prop} {ls : Array Slot} {rs : List Value} {idx : Nat} (hCx : Cx w X p s m args meth c) (hml : c.maxLocals = ls.size) (hlink : Cond.methodLink X.1.1.cls idx arraycopyName ∈ lw_tbl) {a0 a1 t : Nat} {q : ClassId × FieldType} (hq : (tysW w)[t]? = some q) {vs vd : List Value} (hc0 : H[a0]? = some (arrL q.1 vs)) (hc1 : H[a1]? = some (arrL q.1 vd))
    {sp dp n : Int32} (h1 : ¬ sp < 0) (h2 : ¬ dp < 0) (h3 : ¬ n < 0) (h4 : sp.toNatClampNeg + n.toNatClampNeg ≤ vs.length) (h5 : dp.toNatClampNeg + n.toNatClampNeg ≤ vd.length) (ha1 : wO w a1) (hS : va_S (wO w) s.heap H locs)
    (hvals : ∀ (T : State) (comp : ClassId), T.heap = H → (∀ k1, s.vm.classes[q.1]? = some k1 → k1.kind = .array comp q.2) → ∀ vm', s.vm.Alike vm' → ∀ i, i < n.toNatClampNeg → fits q.2 (vs.getD (sp.toNatClampNeg + i) .null) = true ∧ (T.setVm vm').takes comp (vs.getD (sp.toNatClampNeg + i) .null))
    (hframes : 1 ≤ R.frames) (hlocals : (rs.map fun v => v.category).sum + 18 ≤ R.locals) (hdg : decode X.1.2.1 pc = .ok (.invokestatic idx, 3))
    (kk : ∀ (H1 : Heap) (locs1 : List Loc), H1[a1]? = some (arrL q.1 (cpy vs vd sp.toNatClampNeg dp.toNatClampNeg n.toNatClampNeg)) → H1.size = H.size → (∀ z, z ≠ a1 → H1[z]? = H[z]?) → va_S (wO w) s.heap H1 locs1 → W p l e R s m args below meth c H1 locs1 cells slots Z (F0 m (pc + 3) ls rs)) : W p l e R s m args below meth c H locs cells slots Z (F0 m pc ls (.int n :: .int dp :: .ref a1 :: .int sp :: .ref a0 :: rs)) := by
  have nn : ∀ z : Int32, ¬ z < 0 → z.toInt = (z.toNatClampNeg : Int) := by
    intro z hz
    have hz0 : (0 : Int) ≤ z.toInt := by
      have := Int32.not_lt.mp hz
      simpa using Int32.le_iff_toInt_le.mp this
    show z.toInt = ((z.toInt.toNat : Nat) : Int)
    omega
  have e9 : nativeFrameWords "java/lang/System" "arraycopy" 5 = 7 := by decide +kernel
  intro T hT X
  obtain ⟨-, k0, hk0, cm0, hkk0⟩ := (hCx.k.tab.2 t _ hq).1 0 (fun _ => .null)
  have hty : ((refKind q.2 != refKind q.2) || (!refKind q.2 && q.2 != q.2)) = false := by simp
  obtain ⟨vm', X', step⟩ := X.arraycopy hCx.x hCx.own (hCx.t hlink rfl) (hCx.t acNative rfl) (hCx.t acStatic rfl) (hCx.t sysInit rfl) (src := a0) (dst := a1) (cs := arrL q.1 vs) (cd := arrL q.1 vd) (srcPos := sp) (destPos := dp) (n := n) (by rw [hT]; exact hc0) (by rw [hT]; exact hc1)
    (fun _ h => by cases h) (fun _ h => by cases h) (fun h => by cases h) (fun h => by cases h) hk0 hk0 hkk0 hkk0 hty h1 h2 h3
    (by rw [nn sp h1, nn n h3, arrL_size]; omega)
    (by rw [nn dp h2, nn n h3, arrL_size]; omega)
    (fun vm₁ hal i hi => by
      have e : (arrL q.1 vs).slots.getD (sp.toNatClampNeg + i) .null = vs.getD (sp.toNatClampNeg + i) .null := by
        unfold arrL
        simp
      rw [e]
      exact hvals T cm0 hT (fun k1 hk1 => by cases hk0.symm.trans hk1; exact hkk0) vm₁ hal i hi)
    (g := F0 m pc ls (.int n :: .int dp :: .ref a1 :: .int sp :: .ref a0 :: rs)) rfl (by rw [hml]) (rest := rs) rfl (by rw [hCx.b]; exact hdg) hframes (by show 2 * 0 + _ + _ ≤ _; rw [e9]; omega)
  rw [copied_arrL h4 h5] at X' step
  have hl : a1 < H.size := (Array.getElem?_eq_some_iff.mp hc1).1
  have hheap : ((T.setVm vm').setCell a1 (arrL q.1 (cpy vs vd sp.toNatClampNeg dp.toNatClampNeg n.toNatClampNeg))).heap = H.setIfInBounds a1 (arrL q.1 (cpy vs vd sp.toNatClampNeg dp.toNatClampNeg n.toNatClampNeg)) := by rw [← hT]; rfl
  have oq : ∀ z : Nat, z ≠ a1 → (H.setIfInBounds a1 (arrL q.1 (cpy vs vd sp.toNatClampNeg dp.toNatClampNeg n.toNatClampNeg)))[z]? = H[z]? := fun z hz => by simp [Array.getElem?_setIfInBounds, Ne.symm hz]
  obtain ⟨t, b1, b2⟩ := kk _ _ (show (H.setIfInBounds a1 _)[a1]? = some _ by simp [Array.getElem?_setIfInBounds, hl]) (by simp) oq ⟨by simp; exact hS.1, fun z g1 g2 => by
      rw [oq z (fun e => g2 (by rw [e]; exact ha1))]
      exact hS.2.1 z g1 g2, fun z hz => by
      rcases List.mem_append.mp hz with h | h
      · exact hS.2.2 z h
      · obtain ⟨z1, -, hz1⟩ := List.mem_map.mp h
        rw [← hz1]
        exact ha1⟩ _ hheap X'
  exact ⟨t, step t b1, b2⟩
theorem so_copy (hX : mdOK X) {idx : Nat} (hd : decode X.1.2.1 pc = .ok (.invokestatic idx, 3)) (hlink : Cond.methodLink X.1.1.cls idx arraycopyName ∈ lw_tbl) {N : List AV → AH → Prop} (hN : ∀ st' h', N st' h' → Ex l w lm X d Q (pc + 3) ll st' h' bc bs) (ha : aCopy d N st h) : Ex l w lm X d Q pc ll st h bc bs := by
  obtain ⟨n, r1, rfl, ha1⟩ := oI_inv ha
  obtain ⟨dp, r2, rfl, ha2⟩ := oI_inv ha1
  obtain ⟨b, r3, rfl, ha3⟩ := oR_inv ha2
  obtain ⟨sp, r4, rfl, ha4⟩ := oI_inv ha3
  obtain ⟨a, r5, rfl, ha6⟩ := oR_inv ha4
  obtain ⟨hd0, ha7⟩ := nz_inv ha6
  obtain ⟨hcw0, ⟨h3, h2, h1, hb32⟩, ha5⟩ := ifB_inv ha7
  have hcw := Nat.le_of_ble_eq_true hcw0
  have nl : ∀ z : Int32, 0 ≤ z → ¬ z < 0 := fun z hz q => by
    rw [Int32.lt_iff_toInt_lt] at q
    rw [Int32.le_iff_toInt_le] at hz
    omega
  intro p e R s m args below meth c H locs cells slots ls hCx hf hl hcl hsl0 hS hL hlen hva
  have hml : c.maxLocals = ls.size := by rw [hCx.ml, hL.1, hlen]
  have hfr : 1 ≤ R.frames := by rw [hf]; omega
  have hlo : ((r5.map (rv w)).map fun v => v.category).sum + 18 ≤ R.locals := by rw [rv_cats, hl]; omega
  simp only [List.map_cons]
  rcases ha5 with ⟨hca, hcb, h4, h5, hNn⟩ | ⟨hca, ha32, hcb, h4, h5, hel, hNn⟩
  · obtain ⟨ga, -, gca⟩ := hS.arrI hca
    obtain ⟨gb, -, gcb⟩ := hS.arrI hcb
    rw [rvR ga, rvR gb]
    refine w_copy hCx hml hlink (t := 0) (q := (wA w 0, .int)) rfl gca gcb (nl _ h1) (nl _ h2) (nl _ h3) (by rw [List.length_map]; exact h4) (by rw [List.length_map]; exact h5) (Sim.addr (h := h) (H := H) gb) hva (fun T comp hT hk vm' hal i hi => ?_) hfr hlo hd (fun H1 locs1 z1 z2 z3 z4 => ?_)
    · have e1 : ((aI h a).map Value.int).getD (sp.toNatClampNeg + i) .null = .int ((aI h a).getD (sp.toNatClampNeg + i) 0) := by
        rw [List.getD_eq_getElem?_getD, map_get Value.int 0 (by omega)]
        rfl
      rw [e1]
      exact ⟨rfl, trivial⟩
    · rw [← cpy_map] at z1
      exact hN _ _ hNn p e R s m args below meth c H1 locs1 cells slots ls hCx hf hl hcl hsl0 (Sim.tIown (t := 0) (cpy_len h4 h5) hS gb (Or.inl ⟨hcb, rfl⟩) z1 z2 z3) hL hlen z4
  · have own : ∀ {z : Nat}, hC h z = 104 → 32 ≤ z → H[rho w z]? = some (arrL (wA w 3) ((aR h z).map (rvr w))) := by
      intro z hz hz32
      rcases hS.arrO hz with ⟨-, -, q⟩ | ⟨q, -⟩
      · exact q
      · omega
    have gcb := own hcb hb32
    have src : ∃ a0, rv w (.inr (.inr a)) = .ref a0 ∧ H[a0]? = some (arrL (wA w 3) ((aR h a).map (rvr w))) := ⟨_, rvR ha32, own hca ha32⟩
    obtain ⟨a0, ea, gca⟩ := src
    rw [ea, rvR hb32]
    refine w_copy hCx hml hlink (t := 3) (q := (wA w 3, .object "java/lang/Object")) rfl gca gcb (nl _ h1) (nl _ h2) (nl _ h3) (by rw [List.length_map]; exact h4) (by rw [List.length_map]; exact h5) (Sim.addr (h := h) (H := H) hb32) hva (fun T comp hT hk vm' hal i hi => ?_) hfr hlo hd (fun H1 locs1 z1 z2 z3 z4 => ?_)
    · have hlt : sp.toNatClampNeg + i < (aR h a).length := by omega
      have e1 : ((aR h a).map (rvr w)).getD (sp.toNatClampNeg + i) .null = rvr w ((aR h a).getD (sp.toNatClampNeg + i) 0) := by
        rw [List.getD_eq_getElem?_getD, map_get (rvr w) 0 hlt]
        rfl
      rw [e1]
      have hm : (aR h a).getD (sp.toNatClampNeg + i) 0 ∈ aR h a := by
        rw [List.getD_eq_getElem?_getD, List.getElem?_eq_getElem hlt]
        exact List.getElem_mem hlt
      generalize (aR h a).getD (sp.toNatClampNeg + i) 0 = x at hm
      rcases hel x hm with rfl | hx
      · exact ⟨rfl, trivial⟩
      · obtain ⟨cellV, g1, g2, ⟨kC, hkC⟩, hasg⟩ := any_el hS hCx.k hx
        obtain ⟨kA, comp2, r1, r2, r3, -⟩ := (hCx.k.tab.2 3 _ rfl).2
        have hcomp : comp2 = comp := by
          have h7 := hk kA r1
          rw [r2] at h7
          injection h7
        subst hcomp
        obtain ⟨kE, hkE, -⟩ := Vm.findClass_spec r3
        obtain ⟨kC', hkC', -⟩ := hal.2.2 _ _ hkC
        obtain ⟨kE', hkE', -⟩ := hal.2.2 _ _ hkE
        rw [rvr_pos w (by omega)]
        refine ⟨rfl, cellV, (show T.heap[rho w x]? = some cellV by rw [hT]; exact g1), (fun q h => by rw [h] at g2; cases g2), ⟨kC', hkC'⟩, ⟨kE', hkE'⟩, ?_⟩
        show vm'.assignable _ _ = true
        rw [hal.assignable]
        exact hasg _ r3
    · rw [← cpy_map] at z1
      exact hN _ _ hNn p e R s m args below meth c H1 locs1 cells slots ls hCx hf hl hcl hsl0 (hS.tRown hb32 hcb z1 z2 z3) hL hlen z4
theorem lay_gW {t : Nat} (hy : Lay h) : Lay (nW h t) := by
  have h8 := hy.1
  refine hy.grow (Nat.le_succ _) (fun n hn => up1_ne (by omega)) (fun f n hn => if_neg (by omega)) (fun n hn => up1_ne (by omega)) (fun n hn => up1_ne (by omega))
theorem lay_gI {t : Nat} {v : List Int32} (hy : Lay h) : Lay (tI (nW h t) (hZ h) v) := by
  have h8 := hy.1
  exact (lay_gW hy).grow (Nat.le_refl _) (fun n hn => rfl) (fun f n hn => rfl) (fun n hn => up1_ne (by omega)) (fun n hn => rfl)
theorem lay_gL {t : Nat} {v : List Int64} (hy : Lay h) : Lay (tL (nW h t) (hZ h) v) := by
  have h8 := hy.1
  exact (lay_gW hy).grow (Nat.le_refl _) (fun n hn => rfl) (fun f n hn => rfl) (fun n hn => rfl) (fun n hn => up1_ne (by omega))
theorem fV_new {ci k : Nat} {r : vw_C} (hr : vwCl[ci]? = some r) (hk : k < r.2.2) : fV w (nW h (ci + 1)) (fK (fT ci k)) (64 * ci + k) (hZ h) = defaultValue (fT ci k) := by
  have hkc := fK_cases hr hk
  generalize fT ci k = t at hkc ⊢
  have e1 : hI (nW h (ci + 1)) (64 * ci + k) (hZ h) = 0 := if_pos rfl
  have e2 : hL (nW h (ci + 1)) (64 * ci + k) (hZ h) = 0 := if_pos rfl
  have e3 : hR (nW h (ci + 1)) (64 * ci + k) (hZ h) = 0 := if_pos rfl
  cases t <;> first | (simp [fK] at hkc; done) | (simp only [fK, fV, e1, e2, e3]; rfl)
theorem so_new (hX : mdOK X) {idx : Nat} (hd : decode X.1.2.1 pc = .ok (.new idx, 3)) {N : List AV → AH → Nat → Nat → Prop} (hN : ∀ st' h' b' s', N st' h' b' s' → Ex l w lm X d Q (pc + 3) ll st' h' b' s') (ha : aNew X N idx st h bc bs) : Ex l w lm X d Q pc ll st h bc bs := by
  unfold aNew at ha
  split at ha
  · rename_i ci e
    split at ha
    · rename_i q hq
      obtain ⟨b2, s2, rfl, rfl, ha⟩ := ha
      obtain ⟨r, hr, hcl, hins, hini⟩ := hX.2.1.2.2.2.1 _ (lk_mem e)
      dsimp only at hr hcl hins hini
      cases hq.symm.trans hr
      intro p e R s m args below meth c H locs cells slots ls hCx hf hl hcl0 hsl0 hS hL hlen hva
      refine W.newc hCx.x hCx.b hCx.own (hCx.t hcl rfl) (hCx.t hins rfl) (hCx.t hini rfl) rfl hd (by omega) (by omega) (fun cC kC g1 g2 g3 g4 => ?_)
      have hKn := hCx.k.tab.1 ci _ hq
      have hcC : cC = w.1 ci := Option.some.inj (g1.symm.trans hKn.2.1)
      subst hcC
      have hat := hS.newAt
      have hb : t_OB H.size (w.1 ci) q.2.2 (w.2.1 ci) (H.push { cls := w.1 ci, slots := kC.instanceTypes.map defaultValue, vm := .none }) (fun k => defaultValue (fT ci k)) :=
        u_born (fT ci) (fun z hz => hCx.2.2.2.2.1 z hz) (lay_good (la_all hq)) hKn g2 (by simp [blank]) (ty_all hq)
      have hS' : Sim w lm (nW h (ci + 1)) (H.push { cls := w.1 ci, slots := kC.instanceTypes.map defaultValue, vm := .none }) := by
        refine hS.push (fun _ hy => (lay_gW hy)) (t := ci + 1) rfl (by omega) (fun n => rfl) rfl (fun n hn => nW_same hn) (Or.inl ⟨ci, q, ?_, hq, ?_⟩)
        · exact up1_eq
        · rw [hat]
          exact hb.keep rfl (fun k hk => fV_new hq hk)
      have e5 : (rv w (.inr (.inr (hZ h))) : Value) = .ref H.size := by
        rw [rvR hS.2.1, hat]
      have hh := hN _ _ _ _ ha p e R s m args below meth c _ locs (cells + 1) (slots + q.2.2) ls hCx hf hl (by omega) (by omega) hS' hL hlen ⟨by simp; exact Nat.le_succ_of_le hva.1, fun z z1 z2 => by rw [Array.getElem?_push, if_neg (by have := hva.1; omega)]; exact hva.2.1 z z1 z2, hva.2.2⟩
      rw [List.map_cons, e5] at hh
      exact hh
    · exact ha.elim
  · exact ha.elim
theorem so_arrNew {t : Nat} {q : ClassId × FieldType} {H : Heap} {vs : List Value} {h' : AH} {tag : Nat} (hS : Sim w lm h H) (hy : Lay h → Lay h') (hz : hZ h' = hZ h + 1) (ht : tag ≠ 0) (hc : ∀ n, hC h' n = if n = hZ h then tag else hC h n) (hsame : ∀ n, n ≠ hZ h → same1 h h' n) (hcell : ∀ H', H'[rho w (hZ h)]? = some (arrL q.1 vs) → cOK w h' (hZ h) H') : Sim w lm h' (H.push (arrL q.1 vs)) := by
  refine hS.push (fun _ => hy) hz ht hc rfl hsame (hcell _ ?_)
  rw [hS.newAt]
  simp
theorem so_arr {t : ArrayType} (hd : decode X.1.2.1 pc = .ok (.newarray t, 2)) {N : List AV → AH → Nat → Nat → Prop} (hN : ∀ st' h' b' s', N st' h' b' s' → Ex l w lm X d Q (pc + 2) ll st' h' b' s') (ha : aArr N t st h bc bs) : Ex l w lm X d Q pc ll st h bc bs := by
  obtain ⟨n, r, rfl, h0, h6, b2, s2, rfl, rfl, ha1⟩ := oI_inv ha
  have key : ∀ (ti : Nat) (q : ClassId × FieldType) (h' : AH) (v0 : Value), (tysW w)[ti]? = some q → newarray.typeOf t = q.2 → (Cond.arrayClass q.2 ∈ lw_tbl) → (∀ s : State, va_RA s q.1 q.2 → s.vm.findClass ("[" ++ q.2.toString) = some q.1) → componentBytes q.2 ≤ 8 → defaultValue q.2 = v0 →
      (∀ H : Heap, Sim w lm h H → Sim w lm h' (H.push (arrL q.1 (List.replicate n.toNatClampNeg v0)))) → N (.inr (.inr (hZ h)) :: r) h' b2 s2 → Ex l w lm X d Q pc ll (.inl n :: r) h (b2 + 1) (s2 + n.toNatClampNeg) := by
    intro ti q h' v0 hq htq hw hfind hcb hdv hsim hNn
    intro p e R s m args below meth c H locs cells slots ls hCx hf hl hcl0 hsl0 hS hL hlen hva
    rw [List.map_cons]
    refine W.newa hCx.x hCx.b (atype := t) (by rw [htq]; exact hCx.t hw rfl) rfl hd rfl h0 (by rw [htq]; have := Nat.mul_le_mul h6 hcb; omega) (by omega) (by omega) (fun cA kA comp g1 g2 g3 => ?_)
    have hcA : cA = q.1 := by
      rw [htq] at g1
      exact Option.some.inj (g1.symm.trans (hfind s (hCx.k.tab.2 ti q hq).2))
    subst hcA
    have e6 : ({ cls := q.1, slots := Array.replicate n.toNatClampNeg (defaultValue (newarray.typeOf t)), vm := .none } : Cell) = arrL q.1 (List.replicate n.toNatClampNeg v0) := by
      rw [htq, hdv]
      unfold arrL
      rw [List.toArray_replicate]
    rw [e6]
    have e5 : (rv w (.inr (.inr (hZ h))) : Value) = .ref H.size := by rw [rvR hS.2.1, hS.newAt]
    have hh := hN _ _ _ _ hNn p e R s m args below meth c _ locs (cells + 1) (slots + n.toNatClampNeg) ls hCx hf hl (by omega) (by omega) (hsim H hS) hL hlen ⟨by simp; exact Nat.le_succ_of_le hva.1, fun z z1 z2 => by rw [Array.getElem?_push, if_neg (by have := hva.1; omega)]; exact hva.2.1 z z1 z2, hva.2.2⟩
    rw [List.map_cons, e5] at hh
    exact hh
  have sI : ∀ (tag : Nat) (cA : ClassId) (H : Heap), tag ≠ 0 → Sim w lm h H → (∀ (h' : AH) (H' : Heap), hC h' (hZ h) = tag → H'[rho w (hZ h)]? = some (arrL cA ((aI h' (hZ h)).map Value.int)) → cOK w h' (hZ h) H') → Sim w lm (tI (nW h tag) (hZ h) (List.replicate n.toNatClampNeg 0)) (H.push (arrL cA (List.replicate n.toNatClampNeg (.int 0)))) := by
    intro tag cA H ht hS hk
    refine so_arrNew (q := (cA, .int)) (t := 0) hS lay_gI rfl ht (fun _ => rfl) (fun n hn => ?_) (fun H' hH' => hk _ H' up1_eq ?_)
    · obtain ⟨a1, a2, a3, a4, a5, a6⟩ := nW_same (t := tag) hn
      exact ⟨a1, a2, a3, (up1_ne hn).trans a4, a5, a6⟩
    · rw [show aI (tI (nW h tag) (hZ h) (List.replicate n.toNatClampNeg 0)) (hZ h) = List.replicate n.toNatClampNeg 0 from up1_eq, List.map_replicate]
      exact hH'
  cases t with
  | int =>
    exact key 0 (wA w 0, .int) _ (.int 0) rfl rfl arrInt (fun s q => q) (show componentBytes FieldType.int ≤ 8 by decide) rfl (fun H hS => sI 101 (wA w 0) H (by decide) hS (fun h' H' z1 z2 => Or.inr (Or.inl ⟨z1, z2⟩))) ha1
  | boolean =>
    exact key 2 (wA w 2, .boolean) _ (.int 0) rfl rfl arrBool (fun s q => q) (show componentBytes FieldType.boolean ≤ 8 by decide) rfl (fun H hS => sI 103 (wA w 2) H (by decide) hS (fun h' H' z1 z2 => Or.inr (Or.inr (Or.inr (Or.inl ⟨z1, z2⟩))))) ha1
  | long =>
    refine key 1 (wA w 1, .long) _ (.long 0) rfl rfl arrLong (fun s q => q) (show componentBytes FieldType.long ≤ 8 by decide) rfl (fun H hS => ?_) ha1
    refine so_arrNew (q := (wA w 1, .long)) (t := 1) hS lay_gL rfl (by decide) (fun _ => rfl) (fun n hn => ?_) (fun H' hH' => Or.inr (Or.inr (Or.inl ⟨up1_eq, ?_⟩)))
    · obtain ⟨a1, a2, a3, a4, a5, a6⟩ := nW_same (t := 102) hn
      exact ⟨a1, a2, a3, a4, (up1_ne hn).trans a5, a6⟩
    · rw [show aL (tL (nW h 102) (hZ h) (List.replicate n.toNatClampNeg 0)) (hZ h) = List.replicate n.toNatClampNeg 0 from up1_eq, List.map_replicate]
      exact hH'
  | _ => exact ha1.elim
theorem so_anew {idx : Nat} {n : Int32} {b2 s2 : Nat} (hd : decode X.1.2.1 pc = .ok (.anewarray idx, 3)) (hcl : Cond.classLink X.1.1.cls idx "java/lang/Object" ∈ lw_tbl) (h0 : ¬ n < 0) (h6 : n.toNatClampNeg ≤ 60000) (k : Ex l w lm X d Q (pc + 3) ll (.inr (.inr (hZ h)) :: rest) (tR (nW h 104) (hZ h) (List.replicate n.toNatClampNeg 0)) b2 s2) : Ex l w lm X d Q pc ll (.inl n :: rest) h (b2 + 1) (s2 + n.toNatClampNeg) := by
  intro p e R s m args below meth c H locs cells slots ls hCx hf hl hcl0 hsl0 hS hL hlen hva
  rw [List.map_cons]
  refine W.anew hCx.x hCx.b hCx.own (hCx.t hcl rfl) (va_AO.use hCx.k.2.2.2.2.2.2.2.2.2.1) rfl hd rfl h0 (by omega) (by omega) (by omega) (fun cA kA comp g1 g2 g3 g4 => ?_)
  obtain ⟨kA', comp', r1, r2, r3, r4⟩ := (hCx.k.tab.2 3 _ rfl).2
  have hcA : cA = wA w 3 := Option.some.inj (g1.symm.trans r4)
  subst hcA
  have e6 : ({ cls := wA w 3, slots := Array.replicate n.toNatClampNeg .null, vm := .none } : Cell) = arrL (wA w 3) (List.replicate n.toNatClampNeg .null) := by
    unfold arrL
    rw [List.toArray_replicate]
  rw [e6]
  have hS' : Sim w lm (tR (nW h 104) (hZ h) (List.replicate n.toNatClampNeg 0)) (H.push (arrL (wA w 3) (List.replicate n.toNatClampNeg .null))) := by
    refine so_arrNew (q := (wA w 3, .int)) (t := 3) hS (fun hy => (lay_gW hy)) rfl (by decide) (fun _ => rfl) (fun n hn => ?_) (fun H' hH' => Or.inr (Or.inr (Or.inr (Or.inr ⟨up1_eq, ?_⟩))))
    · obtain ⟨a1, a2, a3, a4, a5, a6⟩ := nW_same (t := 104) hn
      exact ⟨a1, a2, a3, a4, a5, (up1_ne hn).trans a6⟩
    · rw [show aR (tR (nW h 104) (hZ h) (List.replicate n.toNatClampNeg 0)) (hZ h) = List.replicate n.toNatClampNeg 0 from up1_eq, List.map_replicate]
      exact hH'
  have e5 : (rv w (.inr (.inr (hZ h))) : Value) = .ref H.size := by rw [rvR hS.2.1, hS.newAt]
  have hh := k p e R s m args below meth c _ locs (cells + 1) (slots + n.toNatClampNeg) ls hCx hf hl (by omega) (by omega) hS' hL hlen ⟨by simp; exact Nat.le_succ_of_le hva.1, fun z z1 z2 => by rw [Array.getElem?_push, if_neg (by have := hva.1; omega)]; exact hva.2.1 z z1 z2, hva.2.2⟩
  rw [List.map_cons, e5] at hh
  exact hh
end Make
