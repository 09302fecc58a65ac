/-! ===== calls, returns ===== -/
section Calls
variable {l : Launch} {w : WD} {lm : Bool} {X : MD} {d : Nat} {Q : Option AV → AH → Prop} {pc : Nat} {ll : List (Option AV)} {st rest : List AV} {h : AH} {bc bs a : Nat}
theorem good_all {q : Cond} (h : q ∈ lw_g) : (q.onTables && q.keeps) = true ∨ ∃ ty, q = .arrayClass ty := good_of_word (List.mem_filter.mp h).2
theorem good_ws {M : MH} (hc : Cond.code M.1 M.2.1 M.2.2.1 M.2.2.2 ∈ lw_tbl) : GoodIn lw_g (wsD M) := by
  intro q hq
  rcases List.mem_cons.mp hq with e | hq
  · subst e
    have := lw_in hc rfl
    exact ⟨this, good_all this⟩
  · exact ⟨hq, good_all hq⟩
theorem pc_blind (as : List AV) : FrameBlind (pcD w lm as h) := by
  intro a U g mk hq
  obtain ⟨h1, h2, h3⟩ := hq
  exact ⟨h1, h2.moved (U := U.calling g mk a) (State.WarmedH.refl U) h2.base (fun q _ => rfl), h3⟩
theorem pc_here {p : Program} {s : State} {m : MethodId} {args : Array Value} {meth : Method} {c : Code} {H : Heap} {locs : List Loc} (as : List AV) (hCx : Cx w X p s m args meth c) (hS : Sim w lm h H) (hva : va_S (wO w) s.heap H locs) : ∀ U : State, U.heap = H → s.WarmedH U.vm → pcD w lm as h (as.map (rv w)).toArray U := by
  intro U hU hW
  have hb := hCx.k.base
  exact ⟨rfl, hCx.k.moved hW (by rw [hU]; exact Nat.le_trans hb hva.1) (fun q hq => by rw [hU]; exact hva.low hb hq), by rw [hU]; exact hS⟩
/-- behind a call -/
theorem run_on {p : Program} {e : Env} {R : Room} {s : State} {m : MethodId} {args : Array Value} {below : List Frame} {meth : Method} {c : Code} {H : Heap} {locs : List Loc} {cells slots mc ms n : Nat} {ls : Array Slot} {st0 rs : List Value} {Z : State → Prop} {K : Option AV → AH → Prop} {arr : Array Value}
    (hrun : ∀ T : State, T.heap = H → Stand p l e R s m args below meth c T locs cells slots → ∃ (v : Option Value) (st₀ t T' : State) (L : List Loc), st₀.heap = H ∧ Stand p l e R s m args below meth c T' (locs ++ L) (cells + mc) (slots + ms) ∧ (∀ q ∈ L, wO w q.base) ∧ T'.heap = t.heap ∧ qcD w lm K arr st₀ (.returned v) t ∧ Goes p e below T (F0 m pc ls st0) T' (F0 m (pc + n) ls (v.toList ++ rs)))
    (hS : Sim w lm h H) (hva : va_S (wO w) s.heap H locs) (hsz : wB w ≤ s.heap.size) (kk : ∀ (v : Option AV) (h' : AH) (H' : Heap) (locs' : List Loc), K v h' → Sim w lm h' H' → va_S (wO w) s.heap H' locs' → W p l e R s m args below meth c H' locs' (cells + mc) (slots + ms) Z (F0 m (pc + n) ls ((v.map (rv w)).toList ++ rs))) : W p l e R s m args below meth c H locs cells slots Z (F0 m pc ls st0) := by
  intro T hT XX
  obtain ⟨v, st₀, t, T', L, g0, X', hL, e1, ⟨v', h', e2, hK, hS', hgrow, hlow⟩, hgo⟩ := hrun T hT XX
  have e3 : v = v'.map (rv w) := by injection e2
  subst e3
  rw [g0] at hgrow hlow
  have hva' : va_S (wO w) s.heap t.heap (locs ++ L) := by
    refine ⟨Nat.le_trans hva.1 hgrow, fun q q1 q2 => ?_, fun q hq => ?_⟩
    · have q3 : q < wB w := Nat.lt_of_not_le q2
      rw [hlow q q3]
      exact hva.2.1 q q1 q2
    · rcases List.mem_append.mp hq with z | z
      · exact hva.2.2 q z
      · exact hL q z
  obtain ⟨t2, a1, b1⟩ := kk v' h' t.heap (locs ++ L) hK hS' hva' T' e1 X'
  exact ⟨t2, hgo t2 a1, b1⟩
theorem Cal.inv {M : MH} {as : List AV} {K : Option AV → AH → Nat → Nat → Prop} (hc : Cal l w lm d M as h bc bs K) : ∃ c1 s1 c2 s2 : Nat, bc = c1 + c2 ∧ bs = s1 + s2 ∧ Con l w lm d M as h c1 s1 (fun v h' => K v h' c2 s2) := hc
theorem tagN_ci {ci : Nat} {r : vw_C} (hr : vwCl[ci]? = some r) : tagN (ci + 1) = r.1 := by
  unfold tagN
  have := vw_lt hr
  rw [if_neg (by omega), Nat.add_sub_cancel, hr]
theorem so_callV (hX : mdOK X) {idx tag np : Nat} {M : MH} {as : List AV} (hd : decode X.1.2.1 pc = .ok (.invokevirtual idx, 3)) (hM : plM X.1.1.cls (idx, 0, tag, np, M)) (hnp : as.length = np) (hc : hC h a = tag) (hcw : cws rest ≤ 8) (hst : st = as.reverse ++ .inr (.inr a) :: rest)
    {K : Option AV → AH → Nat → Nat → Prop} (hcal : Cal l w lm d M (.inr (.inr a) :: as) h bc bs K) (hK : ∀ v h' c s, K v h' c s → Ex l w lm X (d + 1) Q (pc + 3) ll (v.toList ++ rest) h' c s) : Ex l w lm X (d + 1) Q pc ll st h bc bs := by
  subst hst
  obtain ⟨c1, s1, c2, s2, rfl, rfl, hcon⟩ := hcal.inv
  obtain ⟨⟨hcode, hini, hm13, hy1, hy2, hpar⟩, hlink, hinst, hsel, hcls, htag⟩ := hM
  dsimp only at hcode hini hm13 hy1 hy2 hpar hlink hinst hsel hcls htag
  intro p e R s m args below meth c H locs cells slots ls hCx hf hl hcl0 hsl0 hS hL hlen hva
  have hrecv : (rv w (.inr (.inr a)) : Value) = .ref (rho w a) ∧ ∃ cell : Cell, H[rho w a]? = some cell ∧ cell.vm.isStatics = false ∧ s.vm.findClass (tagN tag) = some cell.cls := by
    rcases htag with rfl | ⟨ci, r, rfl, hr⟩
    · obtain ⟨b1, b2, -⟩ := hS.str hc
      have e0 : wX w (2 + (a - 2)) = wX w a := by congr 1; omega
      obtain ⟨cell, g1, g2, g3⟩ := vk_recv (i := a - 2) hCx.k.2.1 (by omega) hva
      rw [e0] at g1
      refine ⟨by rw [show rv w (.inr (.inr a)) = rvr w a from rfl, rvr_pos w (by omega)], cell, by rw [rho_ext w (by omega)]; exact g1, g2, g3⟩
    · obtain ⟨b1, -, -⟩ := hS.obj hc hr
      rw [tagN_ci hr]
      exact ⟨rvR b1, hS.recv hCx.k.tab hc hr⟩
  have hG : GoodIn lw_g (wsV X.1.1.cls idx (tagN tag) M.1 (wsD M)) := by
    intro q hq
    rcases List.mem_append.mp hq with z | z
    · have mem : q ∈ lw_g := by
        simp only [List.mem_cons, List.not_mem_nil, or_false] at z
        rcases z with rfl | rfl | rfl | rfl
        · exact lw_in hlink rfl
        · exact lw_in hinst rfl
        · exact lw_in hsel rfl
        · exact lw_in (hcls ▸ hini) rfl
      exact ⟨mem, good_all mem⟩
    · exact good_ws hcode q z
  have hrun := W.runV (e := e) (below := below) (meth := meth) (locs := locs) (As := as.map (rv w)) (rest := rest.map (rv w)) (b := rho w a) (g := F0 m pc ls ((as.reverse ++ .inr (.inr a) :: rest).map (rv w))) ⟨hCx.x, hCx.b, hCx.ml, hCx.own, hCx.2.2.2.2.1⟩ hcon (cwV (n := np) hCx.2.2.2.2.1 hG rfl rfl rfl ⟨hcls, hy1, hy2, hpar⟩ ⟨by rw [hf]; exact Nat.le_refl _, by rw [hl]; show 8 + (M.2.2.1 + 11) + 64 * d ≤ _; omega⟩)
    (H := H) ⟨pc_blind _, hrecv.2, fun U hU hW => by have := pc_here (.inr (.inr a) :: as) hCx hS hva U hU hW; rw [List.map_cons, hrecv.1] at this; exact this⟩
    rfl (by rw [List.length_map]; exact hnp) (by rw [hL.1]; exact hlen) (by simp [hrecv.1]) (by show 2 * 0 + _ ≤ _; rw [rv_cats]; omega) hd (cells := cells) (slots := slots) ⟨by show cells + c1 ≤ _; omega, by show slots + s1 ≤ _; omega⟩
  refine run_on (n := 3) hrun hS hva hCx.k.base (fun v h' H' locs' hKv hS' hva' => ?_)
  have hh := hK v h' c2 s2 hKv p e R s m args below meth c H' locs' (cells + c1) (slots + s1) ls hCx hf hl (by omega) (by omega) hS' hL hlen hva'
  rw [List.map_append] at hh
  cases v with
  | none => exact hh
  | some v => exact hh
theorem so_callS (hX : mdOK X) {idx tag np : Nat} {M : MH} {as : List AV} (hd : decode X.1.2.1 pc = .ok (.invokestatic idx, 3)) (hM : plM X.1.1.cls (idx, 1, tag, np, M)) (hnp : as.length = np) (hcw : cws rest ≤ 8) (hst : st = as.reverse ++ rest)
    {K : Option AV → AH → Nat → Nat → Prop} (hcal : Cal l w lm d M as h bc bs K) (hK : ∀ v h' c s, K v h' c s → Ex l w lm X (d + 1) Q (pc + 3) ll (v.toList ++ rest) h' c s) : Ex l w lm X (d + 1) Q pc ll st h bc bs := by
  subst hst
  obtain ⟨c1, s1, c2, s2, rfl, rfl, hcon⟩ := hcal.inv
  obtain ⟨⟨hcode, hini, hm13, hy1, hy2, hpar⟩, hlink, hstat⟩ := hM
  dsimp only at hcode hini hm13 hy1 hy2 hpar hlink hstat
  intro p e R s m args below meth c H locs cells slots ls hCx hf hl hcl0 hsl0 hS hL hlen hva
  have hrun := W.runS (e := e) (below := below) (meth := meth) (locs := locs) (As := as.map (rv w)) (rest := rest.map (rv w)) (g := F0 m pc ls ((as.reverse ++ rest).map (rv w))) ⟨hCx.x, hCx.b, hCx.ml, hCx.own, hCx.2.2.2.2.1⟩ hcon ⟨callB_of (n := np) hCx.2.2.2.2.1 (good_ws hcode) rfl rfl rfl (hCx.t hini rfl) (hCx.t hlink rfl) ⟨hy1, hy2, hpar⟩ ⟨by rw [hf]; exact Nat.le_refl _, by rw [hl]; show 8 + (M.2.2.1 + 11) + 64 * d ≤ _; omega⟩, hCx.t hstat rfl⟩
    (H := H) ⟨pc_blind _, pc_here as hCx hS hva⟩
    rfl (by rw [List.length_map]; exact hnp) (by rw [hL.1]; exact hlen) (by simp) (by show 2 * 0 + _ ≤ _; rw [rv_cats]; omega) hd (cells := cells) (slots := slots) ⟨by show cells + c1 ≤ _; omega, by show slots + s1 ≤ _; omega⟩
  refine run_on (n := 3) hrun hS hva hCx.k.base (fun v h' H' locs' hKv hS' hva' => ?_)
  have hh := hK v h' c2 s2 hKv p e R s m args below meth c H' locs' (cells + c1) (slots + s1) ls hCx hf hl (by omega) (by omega) hS' hL hlen hva'
  rw [List.map_append] at hh
  cases v with
  | none => exact hh
  | some v => exact hh
theorem so_callI (hX : mdOK X) {idx tag np : Nat} {M : MH} {as : List AV} (hd : decode X.1.2.1 pc = .ok (.invokespecial idx, 3)) (hM : plM X.1.1.cls (idx, 2, tag, np, M)) (hnp : as.length = np) (hc : hC h a = tag) (hcw : cws rest ≤ 8) (hst : st = as.reverse ++ .inr (.inr a) :: rest)
    {K : Option AV → AH → Nat → Nat → Prop} (hcal : Cal l w lm d M (.inr (.inr a) :: as) h bc bs K) (hK : ∀ v h' c s, K v h' c s → Ex l w lm X (d + 1) Q (pc + 3) ll (v.toList ++ rest) h' c s) : Ex l w lm X (d + 1) Q pc ll st h bc bs := by
  subst hst
  obtain ⟨c1, s1, c2, s2, rfl, rfl, hcon⟩ := hcal.inv
  obtain ⟨⟨hcode, hini, hm13, hy1, hy2, hpar⟩, hlink, hinst, hnm, hret, ci, r, htag, hr⟩ := hM
  dsimp only at hcode hini hm13 hy1 hy2 hpar hlink hinst hnm hret htag hr
  intro p e R s m args below meth c H locs cells slots ls hCx hf hl hcl0 hsl0 hS hL hlen hva
  have hb1 : (rv w (.inr (.inr a)) : Value) = .ref (rho w a) := rvR (hS.obj (hc.trans htag) hr).1
  obtain ⟨y, by_, mL, rt⟩ := M
  dsimp only at hret
  subst hret
  have hrun := W.runI (e := e) (below := below) (meth := meth) (locs := locs) (As := as.map (rv w)) (rest := rest.map (rv w)) (b := rho w a) (g := F0 m pc ls ((as.reverse ++ .inr (.inr a) :: rest).map (rv w))) ⟨hCx.x, hCx.b, hCx.ml, hCx.own, hCx.2.2.2.2.1⟩ hcon (cwI (n := np) hCx.2.2.2.2.1 (good_ws hcode) rfl rfl rfl (hCx.t hini rfl) (hCx.t hlink rfl) (hCx.t hinst rfl) hnm ⟨hy1, hy2, hpar⟩ ⟨by rw [hf]; exact Nat.le_refl _, by rw [hl]; show 8 + (mL + 11) + 64 * d ≤ _; dsimp only at hm13; omega⟩)
    (H := H) ⟨pc_blind _, fun U hU hW => by have := pc_here (.inr (.inr a) :: as) hCx hS hva U hU hW; rw [List.map_cons, hb1] at this; exact this⟩
    rfl (by rw [List.length_map]; exact hnp) (by rw [hL.1]; exact hlen) (by simp [hb1]) (by show 2 * 0 + _ ≤ _; rw [rv_cats]; omega) hd (cells := cells) (slots := slots) ⟨by show cells + c1 ≤ _; omega, by show slots + s1 ≤ _; omega⟩
  refine run_on (n := 3) hrun hS hva hCx.k.base (fun v h' H' locs' hKv hS' hva' => ?_)
  have hh := hK v h' c2 s2 hKv p e R s m args below meth c H' locs' (cells + c1) (slots + s1) ls hCx hf hl (by omega) (by omega) hS' hL hlen hva'
  rw [List.map_append] at hh
  cases v with
  | none => exact hh
  | some v => exact hh
theorem so_callN (hX : mdOK X) {idx tag np : Nat} {M : MH} {as : List AV} (hd : decode X.1.2.1 pc = .ok (.invokespecial idx, 3)) (hM : plM X.1.1.cls (idx, 3, tag, np, M)) (hnp : as.length = np) (hc : hC h a = tag) (hcw : cws rest ≤ 8) (hst : st = as.reverse ++ .inr (.inr a) :: rest)
    {K : Option AV → AH → Nat → Nat → Prop} (hcal : Cal l w lm d M (.inr (.inr a) :: as) h bc bs K) (hK : ∀ v h' c s, K v h' c s → Ex l w lm X (d + 1) Q (pc + 3) ll (v.toList ++ rest) h' c s) : Ex l w lm X (d + 1) Q pc ll st h bc bs := by
  subst hst
  obtain ⟨c1, s1, c2, s2, rfl, rfl, hcon⟩ := hcal.inv
  obtain ⟨⟨hcode, hini, hm13, hy1, hy2, hpar⟩, ⟨host, hlink⟩, hinst, hnm, hret, ci, r, htag, hr⟩ := hM
  dsimp only at hcode hini hm13 hy1 hy2 hpar hlink hinst hnm hret htag hr
  intro p e R s m args below meth c H locs cells slots ls hCx hf hl hcl0 hsl0 hS hL hlen hva
  have hb1 : (rv w (.inr (.inr a)) : Value) = .ref (rho w a) := rvR (hS.obj (hc.trans htag) hr).1
  obtain ⟨y, by_, mL, rt⟩ := M
  dsimp only at hret
  subst hret
  have hNw : va_Nw (.methodLinkNest X.1.1.cls idx y host) s := hCx.k.2.2.2.2.2.2.2.2.2.2.1 _ hlink rfl
  have hrun := va_runIN (e := e) (below := below) (meth := meth) (locs := locs) (As := as.map (rv w)) (rest := rest.map (rv w)) (b := rho w a) (g := F0 m pc ls ((as.reverse ++ .inr (.inr a) :: rest).map (rv w))) ⟨hCx.x, hCx.b, hCx.ml, hCx.own, hCx.2.2.2.2.1⟩ hcon ⟨va_cnB (n := np) hCx.2.2.2.2.1 (good_ws hcode) rfl rfl rfl hNw (hCx.t hini rfl) ⟨hy1, hy2, hpar⟩ ⟨by rw [hf]; exact Nat.le_refl _, by rw [hl]; show 8 + (mL + 11) + 64 * d ≤ _; dsimp only at hm13; omega⟩, hnm, hCx.t hinst rfl⟩
    (H := H) ⟨pc_blind _, fun U hU hW => by have := pc_here (.inr (.inr a) :: as) hCx hS hva U hU hW; rw [List.map_cons, hb1] at this; exact this⟩
    rfl (by rw [List.length_map]; exact hnp) (by rw [hL.1]; exact hlen) (by simp [hb1]) (by show 2 * 0 + _ ≤ _; rw [rv_cats]; omega) hd (cells := cells) (slots := slots) ⟨by show cells + c1 ≤ _; omega, by show slots + s1 ≤ _; omega⟩
  refine run_on (n := 3) (mc := c1) (ms := s1) (rs := rest.map (rv w)) (K := fun v h' => K v h' c2 s2) (arr := (Value.ref (rho w a) :: as.map (rv w)).toArray) (fun T hT XX => ?_) hS hva hCx.k.base (fun v h' H' locs' hKv hS' hva' => ?_)
  · obtain ⟨v, st₀, t, T', L, g0, g1, g2, g3, -, g5, g6⟩ := hrun T hT XX
    exact ⟨v, st₀, t, T', L, g0, g1, g2, g3, g5, g6⟩
  have hh := hK v h' c2 s2 hKv p e R s m args below meth c H' locs' (cells + c1) (slots + s1) ls hCx hf hl (by omega) (by omega) hS' hL hlen hva'
  rw [List.map_append] at hh
  cases v with
  | none => exact hh
  | some v => exact hh
theorem so_callF (hX : mdOK X) {idx tag np cnt : Nat} {M : MH} {as : List AV} (hd : decode X.1.2.1 pc = .ok (.invokeinterface idx cnt, 5)) (hM : plM X.1.1.cls (idx, 4, tag, np, M)) (hnp : as.length = np) (hc : hC h a = tag) (hcw : cws rest ≤ 8) (hst : st = as.reverse ++ .inr (.inr a) :: rest)
    {K : Option AV → AH → Nat → Nat → Prop} (hcal : Cal l w lm d M (.inr (.inr a) :: as) h bc bs K) (hK : ∀ v h' c s, K v h' c s → Ex l w lm X (d + 1) Q (pc + 5) ll (v.toList ++ rest) h' c s) : Ex l w lm X (d + 1) Q pc ll st h bc bs := by
  subst hst
  obtain ⟨c1, s1, c2, s2, rfl, rfl, hcon⟩ := hcal.inv
  obtain ⟨⟨hcode, hini, hm13, hy1, hy2, hpar⟩, htag, hlink, hsel, hinst, hfw, hcls⟩ := hM
  dsimp only at hcode hini hm13 hy1 hy2 hpar hlink hinst hsel hfw hcls htag
  intro p e R s m args below meth c H locs cells slots ls hCx hf hl hcl0 hsl0 hS hL hlen hva
  have hc1 : hC h a = 0 + 1 := hc.trans htag
  have hb1 : (rv w (.inr (.inr a)) : Value) = .ref (rho w a) := rvR (hS.obj hc1 (r := (RJx4a65c, TJx4a65c, 3)) rfl).1
  have hG : GoodIn lw_g (va_wsF X.1.1.cls idx "java/util/ArrayList" (lName M) M.1 (wsD M)) := by
    intro q hq
    rcases List.mem_append.mp hq with z | z
    · have mem : q ∈ lw_g := by
        simp only [List.mem_cons, List.not_mem_nil, or_false] at z
        rcases z with rfl | rfl | rfl | rfl
        · exact lw_in hlink rfl
        · exact lw_in hsel rfl
        · exact lw_in hinst rfl
        · exact lw_in hini rfl
      exact ⟨mem, good_all mem⟩
    · exact good_ws hcode q z
  have hat := (hCx.k.tab.1 0 _ rfl).2
  have hrun := va_runF (e := e) (below := below) (meth := meth) (locs := locs) (As := as.map (rv w)) (rest := rest.map (rv w)) (b := rho w a) (g := F0 m pc ls ((as.reverse ++ .inr (.inr a) :: rest).map (rv w))) hat ⟨hCx.x, hCx.b, hCx.ml, hCx.own, hCx.2.2.2.2.1⟩ hcon (va_cwF (n := np) hCx.2.2.2.2.1 hG rfl rfl rfl (hCx.k.2.2.2.2.2.2.2.2.2.2.2.1 _ hfw) ⟨show "java/util/List" ≠ _ by decide, show "java/util/List" ≠ _ by decide, hpar⟩ ⟨by rw [hf]; exact Nat.le_refl _, by rw [hl]; show 8 + (M.2.2.1 + 11) + 64 * d ≤ _; omega⟩)
    (H := H) ⟨pc_blind _, hS.recv hCx.k.tab hc1 rfl, fun U hU hW => by have := pc_here (.inr (.inr a) :: as) hCx hS hva U hU hW; rw [List.map_cons, hb1] at this; exact this⟩
    rfl (by rw [List.length_map]; exact hnp) (by rw [hL.1]; exact hlen) (by simp [hb1]) (by show 2 * 0 + _ ≤ _; rw [rv_cats]; omega) hd (cells := cells) (slots := slots) ⟨by show cells + c1 ≤ _; omega, by show slots + s1 ≤ _; omega⟩
  refine run_on (n := 5) (mc := c1) (ms := s1) (rs := rest.map (rv w)) (K := fun v h' => K v h' c2 s2) (arr := (Value.ref (rho w a) :: as.map (rv w)).toArray) (fun T hT XX => ?_) hS hva hCx.k.base (fun v h' H' locs' hKv hS' hva' => ?_)
  · obtain ⟨v, st₀, t, T', L, g0, g1, g2, g3, -, g5, g6⟩ := hrun T hT XX
    exact ⟨v, st₀, t, T', L, g0, g1, g2, g3, g5, g6⟩
  have hh := hK v h' c2 s2 hKv p e R s m args below meth c H' locs' (cells + c1) (slots + s1) ls hCx hf hl (by omega) (by omega) hS' hL hlen hva'
  rw [List.map_append] at hh
  cases v with
  | none => exact hh
  | some v => exact hh
end Calls
