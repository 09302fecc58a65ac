/-! ===== fields ===== -/
section Fields
variable {l : Launch} {w : WD} {lm : Bool} {X : MD} {d : Nat} {Q : Option AV → AH → Prop} {pc : Nat} {ll : List (Option AV)} {st : List AV} {h : AH} {bc bs : Nat}
theorem fK_cases {ci k : Nat} {r : vw_C} (hr : vwCl[ci]? = some r) (hk : k < r.2.2) : fK (fT ci k) = 0 ∨ fK (fT ci k) = 1 ∨ fK (fT ci k) = 2 ∨ fK (fT ci k) = 3 :=
  kd_all ci (vw_lt hr) k (Nat.lt_of_lt_of_le hk (n_all hr))
theorem so_get (hX : mdOK X) {idx : Nat} (hd : decode X.1.2.1 pc = .ok (.getfield idx, 3)) {N : List AV → Prop} (hN : ∀ st', N st' → Ex l w lm X d Q (pc + 3) ll st' h bc bs) (ha : aGet X lm N idx st h) : Ex l w lm X d Q pc ll st h bc bs := by
  unfold aGet at ha
  split at ha
  · rename_i ci k kd key e
    obtain ⟨r, ref, hr, hk, hkey, hkd, hlink, hsame⟩ := hX.2.1.1 _ (lk_mem e)
    dsimp only at hr hk hkey hkd hlink hsame
    obtain ⟨a, rest, rfl, ha0⟩ := oR_inv ha
    intro p e R s m args below meth c H locs cells slots ls hCx hf hl hcl0 hsl0 hS hL hlen hva
    obtain ⟨hc, ha1⟩ := isC_inv hS.2.2.2 (Or.inl (vw_lt hr)) ha0
    have hv : ∃ v : AV, N (v :: rest) ∧ rv w v = fV w h kd key a := by
      split at ha1
      · exact ⟨_, ha1, rfl⟩
      · exact ⟨_, rF_inv hS.2.2.2 hkey (by have := n_all hr; omega) (isC_sing ha0) ha1, rfl⟩
      · refine ⟨_, ha1, ?_⟩
        rename_i h1 h2
        unfold fV
        split
        · exact absurd rfl h1
        · exact absurd rfl h2
        · rfl
    obtain ⟨v, hNv, hrv⟩ := hv
    have kk := hN _ hNv p e R s m args below meth c H locs cells slots ls hCx hf hl hcl0 hsl0 hS hL hlen hva
    obtain ⟨ha32, haz, cell, g1, g2, g3, g4⟩ := hS.obj hc hr
    obtain ⟨hSl, hfc, kC, hkC, hkind⟩ := hCx.k.tab.1 ci r hr
    obtain ⟨cf, kf, fi, f, hi, hsl⟩ := hSl k hk
    have hst := (u_facts hfc hkC (u_lays (fun q hq => hCx.2.2.2.2.1 q hq) (lay_good (la_all hr)) hk) hi).1
    have hi2 : s.fieldFound? ref (r.2.1 k).2.1 (r.2.1 k).2.2.1 = some (cf, kf, fi, f) := by
      rcases hsame with e2 | e2
      · rw [e2]; exact hi
      · exact u_same (hCx.t e2 rfl) _ hi
    have e1 : (rv w (.inr (.inr a)) : Value) = .ref (rho w a) := rvr_pos w (by omega)
    rw [List.map_cons, e1]
    refine W.getf hCx.x hCx.b hCx.own (hCx.t hlink rfl) hi2 hst g1 (by rw [g3]; exact fun h => by cases h) (by rw [hsl]; exact g4 k hk) rfl rfl hd ?_
    have e3 : rv w v = fV w h (fK (fT ci k)) (64 * ci + k) a := by rw [hrv, hkd, hkey]
    rw [List.map_cons, e3] at kk
    exact kk
  · split at ha
    · rename_i e
      obtain ⟨a, rest, rfl, hc, ha⟩ := oR_inv ha
      have hlink : Cond.fieldLink X.1.1.cls idx "java/lang/String" "value" "[B" ∈ lw_tbl := by
        rcases hX.2.1.2.2.2.2.2.1 _ (lk_mem e) with ⟨-, q⟩ | ⟨q, -⟩
        · exact q
        · cases q
      refine Ex.pure (st' := .inr (.inr (hR h 704 a)) :: rest) (fun p e R s m args below meth c H locs cells slots Z ls hC hL _ _ _ _ hS hva _ kk => ?_) (hN _ ha)
      obtain ⟨b1, b2, b3, b4⟩ := hS.str hc
      have hs := (hC.k.2.1.1 (a - 2) (by omega)).2.2.1
      have e1 : (rv w (.inr (.inr a)) : Value) = .ref (wX w (2 + (a - 2))) := by
        show rvr w a = _
        rw [rvr_pos w (by omega), rho_ext w (by omega)]
        congr 2
        omega
      have e2 : (rv w (.inr (.inr (hR h 704 a))) : Value) = .ref (wX w (13 + (a - 2))) := by
        show rvr w (hR h 704 a) = _
        rw [b3, rvr_pos w (by omega), rho_ext w (by omega)]
        congr 2
        omega
      rw [List.map_cons, e1]
      rw [List.map_cons, e2] at kk
      exact vk_getf hC.x hC.b hs hva hC.own (hC.t hlink rfl) (fun _ h => h) hd kk
    · rename_i k hk0 e
      obtain ⟨a, rest, rfl, hc, ha⟩ := oR_inv ha
      have hlink : Cond.fieldLink X.1.1.cls idx "java/lang/String" "coder" "B" ∈ lw_tbl := by
        rcases hX.2.1.2.2.2.2.2.1 _ (lk_mem e) with ⟨q, -⟩ | ⟨-, q⟩
        · exact absurd q hk0
        · exact q
      refine Ex.pure (st' := .inl (hI h 705 a) :: rest) (fun p e R s m args below meth c H locs cells slots Z ls hC hL _ _ _ _ hS hva _ kk => ?_) (hN _ ha)
      obtain ⟨b1, b2, b3, b4⟩ := hS.str hc
      have hs := (hC.k.2.1.1 (a - 2) (by omega)).2.1
      have e1 : (rv w (.inr (.inr a)) : Value) = .ref (wX w (2 + (a - 2))) := by
        show rvr w a = _
        rw [rvr_pos w (by omega), rho_ext w (by omega)]
        congr 2
        omega
      have e2 : (rv w (.inl (hI h 705 a)) : Value) = .int 0 := by rw [b4]; rfl
      rw [List.map_cons, e1]
      rw [List.map_cons, e2] at kk
      exact vk_getf hC.x hC.b hs hva hC.own (hC.t hlink rfl) (fun _ h => h) hd kk
    · exact ha.elim
/-- a field's change: the machine's, and the small heap's -/
theorem so_put1 {pc idx ci k a : Nat} {r : vw_C} {ref : String} {v : AV} {h' : AH} {rest : List AV} (hfin : (r.2.1 k).2.2.2 = true → X.1.1.name = "<init>" ∧ (r.2.1 k).1 = X.1.1.cls) (hr : vwCl[ci]? = some r) (hk : k < r.2.2) (hlink : Cond.fieldLink X.1.1.cls idx ref (r.2.1 k).2.1 (r.2.1 k).2.2.1 ∈ lw_tbl) (hsame : ref = (r.2.1 k).1 ∨ Cond.sameField ref (r.2.1 k).1 (r.2.1 k).2.1 (r.2.1 k).2.2.1 ∈ lw_tbl)
    (hd : decode X.1.2.1 pc = .ok (.putfield idx, 3)) (hci : (lm = true → Lay h) → hC h a = ci + 1) (hlay : lm = true → Lay h → Lay h') (hcz : hZ h' = hZ h) (hcc : ∀ n, hC h' n = hC h n) (hsm : ∀ n, n ≠ a → same1 h h' n)
    (hnew : fV w h' (fK (fT ci k)) (64 * ci + k) a = rv w v) (hold : ∀ j, j ≠ k → fV w h' (fK (fT ci j)) (64 * ci + j) a = fV w h (fK (fT ci j)) (64 * ci + j) a)
    (hn : narrow (fT ci k) (rv w v) = rv w v) (hft : fits (fT ci k) (rv w v) = true) (kk : Ex l w lm X d Q (pc + 3) ll rest h' bc bs) : Ex l w lm X d Q pc ll (v :: .inr (.inr a) :: rest) h bc bs := by
  intro p e R s m args below meth c H locs cells slots ls hC hf hl hcl hsl0 hS hL hlen hva
  have hc := hci hS.2.2.2
  obtain ⟨ha32, haz, cell, g1, g2, g3, g4⟩ := hS.obj hc hr
  have hK := hC.k.tab
  obtain ⟨hSl, hfc, kC, hkC, hkind⟩ := hK.1 ci r hr
  obtain ⟨cf, kf, fi, f, hi, hsl⟩ := hSl k hk
  have hts : ∀ q ∈ lw_g, q.before args s = true := hC.2.2.2.2.1
  have hlays := u_lays hts (lay_good (la_all hr)) hk
  have hst := (u_facts hfc hkC hlays hi).1
  have hap := va_apart (own := X.1.1.cls) hts (lay_good (la_all hr)) (fT ci) (ty_all hr) (nm_all hr) hK hr
  have hi2 : s.fieldFound? ref (r.2.1 k).2.1 (r.2.1 k).2.2.1 = some (cf, kf, fi, f) := by
    rcases hsame with e2 | e2
    · rw [e2]; exact hi
    · exact u_same (hC.t e2 rfl) _ hi
  have e1 : (rv w (.inr (.inr a)) : Value) = .ref (rho w a) := rvr_pos w (by omega)
  have fin : ∀ H' : Heap, H'[rho w a]? = some (cell.setSlot f.slot (rv w v)) → H'.size = H.size → (∀ q, q ≠ rho w a → H'[q]? = H[q]?) → W p l e R s m args below meth c H' (locs ++ [⟨rho w a, f.slot⟩]) cells slots (MQ below (qcD w lm Q) args s R.cells R.slots (wO w)) (F0 m (pc + 3) ls (rest.map (rv w))) := by
    intro H' z1 z2 z3
    rw [hsl] at z1
    have hS' : Sim w lm h' H' := by
      refine hS.upd hlay ha32 hcz hcc z2 z3 hsm (Or.inl ⟨ci, r, (hcc a).trans hc, hr, _, z1, g2, g3, fun j hj => ?_⟩)
      rw [t_set g4 hap hk (rv w v) j hj]
      exact congrArg some (fV_set hnew hold j).symm
    exact kk p e R s m args below meth c H' _ cells slots ls hC hf hl hcl hsl0 hS' hL hlen (hva.put z2 z3 (Sim.addr (h := h) (H := H) ha32))
  rw [List.map_cons, List.map_cons, e1]
  by_cases hff : (r.2.1 k).2.2.2 = true
  · obtain ⟨hn1, hn2⟩ := hfin hff
    have h6 := u_fits hfc hkC hkind hlays hi (ty_all hr k hk) hn hft
    have hcf : m.cls = cf := by
      have hlay := hts _ (lay_good (la_all hr) _ (u_in_lay hk))
      unfold u_lay at hlay
      rw [if_pos hff] at hlay
      obtain ⟨_, _, c', _, _, _, -, -, hf', -, -, -, hown2, -⟩ := Cond.laysFinal_spec hlay
      have e1 : c' = cf := by have := hi.symm.trans hf'; simp at this; exact this.1.symm
      rw [hn2] at hown2
      rw [← e1]
      exact Option.some.inj (hC.own.symm.trans hown2)
    exact W.putFinK hC.x hC.b hC.own (hC.t hlink rfl) hi2 hst hcf (hC.nm.trans hn1) (by rw [g2]; exact h6) g1 g3 (by rw [hsl]; exact k2_hasslot (g4 k hk)) rfl rfl hd fin
  · have hlay := hts _ (lay_good (la_all hr) _ (u_in_lay hk))
    unfold u_lay at hlay
    rw [if_neg hff] at hlay
    have h6 := u_store hfc hkC hkind hlay hi (ty_all hr k hk) hn hft
    exact W.putK hC.x hC.b (f := f) ⟨hC.own, hC.t hlink rfl, ⟨_, _, _, hi2⟩, hst⟩ (by rw [g2]; exact h6) g1 g3 (by rw [hsl]; exact k2_hasslot (g4 k hk)) rfl rfl hd fin
theorem so_put (hX : mdOK X) {pc idx : Nat} {N : List AV → AH → Prop} (hd : decode X.1.2.1 pc = .ok (.putfield idx, 3))
    (hfin : ∀ ci k kd key r, lk X.2.2.1 idx = some (ci, k, kd, key) → vwCl[ci]? = some r → (r.2.1 k).2.2.2 = true → X.1.1.name = "<init>" ∧ (r.2.1 k).1 = X.1.1.cls)
    (hN : ∀ st' h', N st' h' → Ex l w lm X d Q (pc + 3) ll st' h' bc bs) (ha : aPut X lm N idx st h) : Ex l w lm X d Q pc ll st h bc bs := by
  unfold aPut at ha
  split at ha
  · rename_i ci k kd key e
    obtain ⟨r, ref, hr, hk, hkey, hkd, hlink, hsame⟩ := hX.2.1.1 _ (lk_mem e)
    dsimp only at hr hk hkey hkd hlink hsame
    have hfi := hfin ci k kd key r e hr
    have hkc := fK_cases hr hk
    subst hkey
    have ne : ∀ j, j ≠ k → ¬ (64 * ci + j = 64 * ci + k) := fun j hj h => hj (by omega)
    split at ha
    · obtain ⟨x, r1, rfl, ha1⟩ := oI_inv ha
      obtain ⟨a, rest, rfl, ha3⟩ := oR_inv ha1
      have hc : (lm = true → Lay h) → hC h a = ci + 1 := fun hy => (isC_inv hy (Or.inl (vw_lt hr)) ha3).1
      have ha2 := isC_A ha3
      have ht : fT ci k = .int := by
        generalize fT ci k = t at hkd
        cases t <;> first | rfl | (simp [fK] at hkd)
      refine so_put1 (h' := sI h (64 * ci + k) a x) hfi hr hk hlink hsame hd hc (fun _ hy => hy) rfl (fun _ => rfl) (fun n hn => sI_same hn) ?_ (fun j hj => ?_) ?_ ?_ (hN _ _ ha2)
      · rw [← hkd]
        exact congrArg Value.int (if_pos ⟨rfl, rfl⟩)
      · unfold fV
        split
        · rfl
        · rfl
        · exact congrArg Value.int (if_neg (fun q => ne j hj q.1))
      · rw [ht]; rfl
      · rw [ht]; rfl
    · obtain ⟨x, r1, rfl, ha1⟩ := oL_inv ha
      obtain ⟨a, rest, rfl, ha3⟩ := oR_inv ha1
      have hc : (lm = true → Lay h) → hC h a = ci + 1 := fun hy => (isC_inv hy (Or.inl (vw_lt hr)) ha3).1
      have ha2 := isC_A ha3
      have ht : fT ci k = .long := by
        generalize fT ci k = t at hkd
        cases t <;> first | rfl | (simp [fK] at hkd)
      refine so_put1 (h' := sL h (64 * ci + k) a x) hfi hr hk hlink hsame hd hc (fun _ hy => hy) rfl (fun _ => rfl) (fun n hn => sL_same hn) ?_ (fun j hj => ?_) ?_ ?_ (hN _ _ ha2)
      · rw [← hkd]
        exact congrArg Value.long (if_pos ⟨rfl, rfl⟩)
      · unfold fV
        split
        · exact congrArg Value.long (if_neg (fun q => ne j hj q.1))
        · rfl
        · rfl
      · rw [ht]; rfl
      · rw [ht]; rfl
    · obtain ⟨x, r1, rfl, ha1⟩ := oR_inv ha
      obtain ⟨a, rest, rfl, ha3⟩ := oR_inv ha1
      have hc : (lm = true → Lay h) → hC h a = ci + 1 := fun hy => (isC_inv hy (Or.inl (vw_lt hr)) ha3).1
      obtain ⟨hnf, ha2⟩ := ifB_inv (isC_A ha3)
      have ht : (∃ n, fT ci k = .object n) ∨ ∃ t, fT ci k = .array t := by
        generalize fT ci k = t at hkd
        cases t <;> first | exact Or.inl ⟨_, rfl⟩ | exact Or.inr ⟨_, rfl⟩ | (simp [fK] at hkd)
      refine so_put1 (h' := sR h (64 * ci + k) a x) hfi hr hk hlink hsame hd hc (fun hlm => lay_sR (by rw [hlm] at hnf; exact hnf)) rfl (fun _ => rfl) (fun n hn => sR_same hn) ?_ (fun j hj => ?_) ?_ ?_ (hN _ _ ha2)
      · rw [← hkd]
        exact congrArg (rvr w) (if_pos ⟨rfl, rfl⟩)
      · unfold fV
        split
        · rfl
        · exact congrArg (rvr w) (if_neg (fun q => ne j hj q.1))
        · rfl
      · show narrow _ (rvr w x) = rvr w x
        rcases ht with ⟨n, ht⟩ | ⟨n, ht⟩ <;> rw [ht] <;> (unfold rvr; cases rvo w x <;> rfl)
      · show fits _ (rvr w x) = true
        rcases ht with ⟨n, ht⟩ | ⟨n, ht⟩ <;> rw [ht] <;> (unfold rvr; cases rvo w x <;> rfl)
    · rename_i h0 h1 h2
      obtain ⟨x, r1, rfl, ha1⟩ := oI_inv ha
      obtain ⟨a, rest, rfl, ha3⟩ := oR_inv ha1
      have hc : (lm = true → Lay h) → hC h a = ci + 1 := fun hy => (isC_inv hy (Or.inl (vw_lt hr)) ha3).1
      obtain ⟨hx, ha2⟩ := isC_A ha3
      have ht : fT ci k = .boolean := by
        rcases hkc with q | q | q | q
        · exact absurd (hkd.trans q) h0
        · exact absurd (hkd.trans q) h1
        · exact absurd (hkd.trans q) h2
        · generalize fT ci k = t at q
          cases t <;> first | rfl | (simp [fK] at q)
      refine so_put1 (h' := sI h (64 * ci + k) a x) hfi hr hk hlink hsame hd hc (fun _ hy => hy) rfl (fun _ => rfl) (fun n hn => sI_same hn) ?_ (fun j hj => ?_) ?_ ?_ (hN _ _ ha2)
      · rw [ht]
        exact congrArg Value.int (if_pos ⟨rfl, rfl⟩)
      · unfold fV
        split
        · rfl
        · rfl
        · exact congrArg Value.int (if_neg (fun q => ne j hj q.1))
      · rw [ht]
        rcases hx with rfl | rfl <;> rfl
      · rw [ht]
        rcases hx with rfl | rfl <;> rfl
  · exact ha.elim
end Fields
