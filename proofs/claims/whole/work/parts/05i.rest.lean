/-! ===== the whole machine ===== -/
section Rest
variable {l : Launch} {w : WD} {lm : Bool} {X : MD} {d : Nat} {Q : Option AV → AH → Prop} {pc : Nat} {ll : List (Option AV)} {st rest : List AV} {h : AH} {bc bs a : Nat}
theorem so_store1 {k : Nat} {v : AV} {rest st : List AV} {n : Nat} {K : List (Option AV) → Prop} (hv : cw v = 1) (hs : st1 ll k v K) (hK : ∀ l2, K l2 → Ex l w lm X d Q (pc + n) l2 rest h bc bs)
    (row : ∀ (p : Program) (e : Env) (R : Room) (s : State) (m : MethodId) (args : Array Value) (below : List Frame) (meth : Method) (c : Code) (H : Heap) (locs : List Loc) (cells slots : Nat) (Z : State → Prop) (ls ls' : Array Slot), Cx w X p s m args meth c → LOK w ls ll → storeLocals ls k (rv w v) = some ls' →
      W p l e R s m args below meth c H locs cells slots Z (F0 m (pc + n) ls' (rest.map (rv w))) → W p l e R s m args below meth c H locs cells slots Z (F0 m pc ls (st.map (rv w)))) : Ex l w lm X d Q pc ll st h bc bs := by
  obtain ⟨l2, h1, h2⟩ := st1_two hs
  intro p e R s m args below meth c H locs cells slots ls hCx hf hl hcl0 hsl0 hS hL hlen hva
  obtain ⟨ls', e', hL', hl2⟩ := hL.store1 hv h1
  exact row p e R s m args below meth c H locs cells slots _ ls ls' hCx hL e' (hK l2 h2 p e R s m args below meth c H locs cells slots ls' hCx hf hl hcl0 hsl0 hS hL' (hl2.trans hlen) hva)
theorem so_store2 {k : Nat} {v : AV} {rest st : List AV} {n : Nat} {K : List (Option AV) → Prop} (hv : cw v = 2) (hs : st2 ll k v K) (hK : ∀ l2, K l2 → Ex l w lm X d Q (pc + n) l2 rest h bc bs)
    (row : ∀ (p : Program) (e : Env) (R : Room) (s : State) (m : MethodId) (args : Array Value) (below : List Frame) (meth : Method) (c : Code) (H : Heap) (locs : List Loc) (cells slots : Nat) (Z : State → Prop) (ls ls' : Array Slot), Cx w X p s m args meth c → LOK w ls ll → storeLocals ls k (rv w v) = some ls' →
      W p l e R s m args below meth c H locs cells slots Z (F0 m (pc + n) ls' (rest.map (rv w))) → W p l e R s m args below meth c H locs cells slots Z (F0 m pc ls (st.map (rv w)))) : Ex l w lm X d Q pc ll st h bc bs := by
  obtain ⟨l2, h1, h2⟩ := st2_two hs
  intro p e R s m args below meth c H locs cells slots ls hCx hf hl hcl0 hsl0 hS hL hlen hva
  obtain ⟨ls', e', hL', hl2⟩ := hL.store2 hv h1
  exact row p e R s m args below meth c H locs cells slots _ ls ls' hCx hL e' (hK l2 h2 p e R s m args below meth c H locs cells slots ls' hCx hf hl hcl0 hsl0 hS hL' (hl2.trans hlen) hva)
/-- a branch: both ways -/
theorem Ex.both {pc1 pc2 : Nat} {st' : List AV} {c1 c2 : Prop}
    (row : ∀ (p : Program) (e : Env) (R : Room) (s : State) (m : MethodId) (args : Array Value) (below : List Frame) (meth : Method) (c : Code) (H : Heap) (locs : List Loc) (cells slots : Nat) (Z : State → Prop) (ls : Array Slot), Cx w X p s m args meth c → Sim w lm h H →
      (c1 → W p l e R s m args below meth c H locs cells slots Z (F0 m pc1 ls (st'.map (rv w)))) → (c2 → W p l e R s m args below meth c H locs cells slots Z (F0 m pc2 ls (st'.map (rv w)))) → W p l e R s m args below meth c H locs cells slots Z (F0 m pc ls (st.map (rv w))))
    (k1 : c1 → Ex l w lm X d Q pc1 ll st' h bc bs) (k2 : c2 → Ex l w lm X d Q pc2 ll st' h bc bs) : Ex l w lm X d Q pc ll st h bc bs := by
  intro p e R s m args below meth c H locs cells slots ls hCx hf hl hcl0 hsl0 hS hL hlen hva
  exact row p e R s m args below meth c H locs cells slots _ ls hCx hS (fun q => k1 q p e R s m args below meth c H locs cells slots ls hCx hf hl hcl0 hsl0 hS hL hlen hva) (fun q => k2 q p e R s m args below meth c H locs cells slots ls hCx hf hl hcl0 hsl0 hS hL hlen hva)
theorem rvo_inj {s : State} (hK : WK w s) {x y : Nat} (hx : (x = 24 ∧ y = 24) ∨ (rOK x ∧ rOK y)) (e : rvo w x = rvo w y) : x = y := by
  rcases hx with ⟨rfl, rfl⟩ | ⟨hx, hy⟩
  · rfl
  unfold rvo rho at e
  have h1 := hK.ext (n := 1) (by decide)
  unfold rOK at hx hy
  by_cases x0 : x = 0
  · subst x0
    by_cases y0 : y = 0
    · exact y0.symm
    · rw [if_pos rfl, if_neg y0] at e; cases e
  · by_cases y0 : y = 0
    · subst y0
      rw [if_neg x0, if_pos rfl] at e; cases e
    · rw [if_neg x0, if_neg y0] at e
      have e := Option.some.inj e
      by_cases a1 : x < 32 <;> by_cases b1 : y < 32
      · omega
      · rw [if_pos a1, if_neg b1] at e
        have c1 : x = 1 := by omega
        subst c1
        omega
      · rw [if_neg a1, if_pos b1] at e
        have c2 : y = 1 := by omega
        subst c2
        omega
      · rw [if_neg a1, if_neg b1] at e
        omega
theorem plM0 {own : String} {idx tag np : Nat} {M : MH} (h : plM own (idx, 0, tag, np, M)) : tag = 12 ∨ ∃ (ci : Nat) (r : vw_C), tag = ci + 1 ∧ vwCl[ci]? = some r := h.2.2.2.2.2
theorem plM2 {own : String} {idx tag np : Nat} {M : MH} (h : plM own (idx, 2, tag, np, M)) : ∃ (ci : Nat) (r : vw_C), tag = ci + 1 ∧ vwCl[ci]? = some r := h.2.2.2.2.2
theorem plM3 {own : String} {idx tag np : Nat} {M : MH} (h : plM own (idx, 3, tag, np, M)) : ∃ (ci : Nat) (r : vw_C), tag = ci + 1 ∧ vwCl[ci]? = some r := h.2.2.2.2.2
theorem plM4 {own : String} {idx tag np : Nat} {M : MH} (h : plM own (idx, 4, tag, np, M)) : tag = 0 + 1 := h.2.1
theorem so_recv {tag a : Nat} {A : Prop} (k : hC h a = tag → A → Ex l w lm X d Q pc ll st h bc bs) (ht : (∃ (ci : Nat) (r : vw_C), tag = ci + 1 ∧ vwCl[ci]? = some r) ∨ tag = 12) (ha : isT lm tag a h A) : Ex l w lm X d Q pc ll st h bc bs := by
  intro p e R s m args below meth c H locs cells slots ls hCx hf hl hcl0 hsl0 hS hL hlen hva
  unfold isT at ha
  split at ha
  · exact ha.elim
  · rename_i ci
    have hci : ci < 11 ∨ ci = 11 := by
      rcases ht with ⟨ci', r, e, hr⟩ | e
      · have := vw_lt hr; omega
      · omega
    obtain ⟨g1, g2⟩ := isC_inv hS.2.2.2 hci ha
    exact k g1 g2 p e R s m args below meth c H locs cells slots ls hCx hf hl hcl0 hsl0 hS hL hlen hva
theorem so_iret {x : Int32} (hd : decode X.1.2.1 pc = .ok (.ireturn, 1)) (ht : match X.1.2.2.2 with
    | some .int => True
    | some .char => (x.toUInt32 % 65536).toInt32 = x
    | some .byte => x = 0
    | some .boolean => x = 0 ∨ x = 1
    | _ => False) (hq : Q (some (.inl x)) h) : Ex l w lm X d Q pc ll [.inl x] h bc bs := by
  intro p e R s m args below meth c H locs cells slots ls hCx hf hl hcl0 hsl0 hS hL hlen hva
  have hqc : ∀ t : State, t.heap = H → s.WarmedH t.vm → qcD w lm Q args s (.returned (some (.int x))) t := fun t htt _ => ⟨some (.inl x), h, rfl, hq, by rw [htt]; exact hS, by rw [htt]; exact hva.1, fun q hq => by rw [htt]; exact hva.low hCx.k.base hq⟩
  refine W.widen (k := R.cells) (n := R.slots) (by omega) (by omega) ?_
  have hr := hCx.ret
  split at ht
  · rename_i e1
    exact W.iret hCx.x hCx.b (hr.trans e1) hqc hva.2.2 hd (hlocks := hCx.locks)
  · rename_i e1
    exact W.zret hCx.x hCx.b (hr.trans e1) (by have := pk_nc x; rw [ht] at this; exact this) hqc hva.2.2 hd (hlocks := hCx.locks)
  · rename_i e1
    exact W.zret hCx.x hCx.b (hr.trans e1) (by rw [ht]; rfl) hqc hva.2.2 hd (hlocks := hCx.locks)
  · rename_i e1
    exact W.zret hCx.x hCx.b (hr.trans e1) (by rcases ht with rfl | rfl <;> rfl) hqc hva.2.2 hd (hlocks := hCx.locks)
  · exact ht.elim
theorem so_lret {x : Int64} (hd : decode X.1.2.1 pc = .ok (.lreturn, 1)) (ht : X.1.2.2.2 = some .long) (hq : Q (some (.inr (.inl x))) h) : Ex l w lm X d Q pc ll [.inr (.inl x)] h bc bs := by
  intro p e R s m args below meth c H locs cells slots ls hCx hf hl hcl0 hsl0 hS hL hlen hva
  refine W.widen (k := R.cells) (n := R.slots) (by omega) (by omega) ?_
  exact W.lret hCx.x hCx.b (hCx.ret.trans ht) (fun t htt _ => ⟨some (.inr (.inl x)), h, rfl, hq, by rw [htt]; exact hS, by rw [htt]; exact hva.1, fun q hq => by rw [htt]; exact hva.low hCx.k.base hq⟩) hva.2.2 hd (hlocks := hCx.locks)
theorem so_aret {x : Nat} (hd : decode X.1.2.1 pc = .ok (.areturn, 1)) (ht : ∃ rt, X.1.2.2.2 = some rt ∧ ((∃ n, rt = .object n) ∨ ∃ t, rt = .array t)) (hq : Q (some (.inr (.inr x))) h) : Ex l w lm X d Q pc ll [.inr (.inr x)] h bc bs := by
  obtain ⟨rt, h1, h2⟩ := ht
  intro p e R s m args below meth c H locs cells slots ls hCx hf hl hcl0 hsl0 hS hL hlen hva
  refine W.widen (k := R.cells) (n := R.slots) (by omega) (by omega) ?_
  exact W.aret hCx.x hCx.b (hCx.ret.trans h1) h2 (va_rf_or _) (fun t htt _ => ⟨some (.inr (.inr x)), h, rfl, hq, by rw [htt]; exact hS, by rw [htt]; exact hva.1, fun q hq => by rw [htt]; exact hva.low hCx.k.base hq⟩) hva.2.2 hd (hlocks := hCx.locks)
theorem so_vret (hd : decode X.1.2.1 pc = .ok (.return_, 1)) (ht : X.1.2.2.2 = none) (hq : Q none h) : Ex l w lm X d Q pc ll [] h bc bs := by
  intro p e R s m args below meth c H locs cells slots ls hCx hf hl hcl0 hsl0 hS hL hlen hva
  refine W.widen (k := R.cells) (n := R.slots) (by omega) (by omega) ?_
  exact W.vret hCx.x hCx.b (hCx.ret.trans ht) (fun t htt _ => ⟨none, h, rfl, hq, by rw [htt]; exact hS, by rw [htt]; exact hva.1, fun q hq => by rw [htt]; exact hva.low hCx.k.base hq⟩) hva.2.2 hd (hlocks := hCx.locks)
theorem aop_ok (hX : mdOK X) {pc nx tg n : Nat} {i : Instr} {cv : Int32} {cl : Int64} {cut : Bool} (he : (pc, i, n, nx, tg, cv, cl, cut) ∈ X.2.1) {N J E : List (Option AV) → List AV → AH → Nat → Nat → Prop} {G : Nat → List (Option AV) → List AV → AH → Nat → Nat → Prop}
    (hN : ∀ ll st h bc bs, N ll st h bc bs → Ex l w lm X d Q nx ll st h bc bs) (hJ : ∀ ll st h bc bs, J ll st h bc bs → Ex l w lm X d Q tg ll st h bc bs) (hG : ∀ t ll st h bc bs, G t ll st h bc bs → Ex l w lm X d Q t ll st h bc bs) (hE : ∀ ll st h bc bs, E ll st h bc bs → Ex l w lm X d Q nx ll st h bc bs)
    (ha : aop l w lm X d Q N J G E i pc cv cl ll st h bc bs) : Ex l w lm X d Q pc ll st h bc bs := by
  have hb := List.all_eq_true.mp hX.1 _ he
  unfold ceB at hb
  dsimp only at hb
  rw [Bool.and_eq_true, Bool.and_eq_true, Bool.and_eq_true] at hb
  obtain ⟨hd0, hnx, hlen1, hin⟩ := hb
  have hd := of_decide_eq_true hd0
  obtain rfl := Nat.eq_of_beq_eq_true hnx
  have hlen0 := Nat.eq_of_beq_eq_true hlen1
  clear hd0 hlen1 hnx
  cases i
  case iadd =>
    obtain rfl : n = 1 := hlen0.symm
    obtain ⟨x, y, r, rfl, ha1⟩ := oII_inv ha
    exact Ex.pure (fun p e R s m args below meth c H locs cells slots Z ls hCx hL hf hl hce hsl hS hva hlen k => lv_iadd hCx.x hCx.b hd k) (hN _ _ _ _ _ ha1)
  case isub =>
    obtain rfl : n = 1 := hlen0.symm
    obtain ⟨x, y, r, rfl, ha1⟩ := oII_inv ha
    exact Ex.pure (fun p e R s m args below meth c H locs cells slots Z ls hCx hL hf hl hce hsl hS hva hlen k => lv_isub hCx.x hCx.b hd k) (hN _ _ _ _ _ ha1)
  case imul =>
    obtain rfl : n = 1 := hlen0.symm
    obtain ⟨x, y, r, rfl, ha1⟩ := oII_inv ha
    exact Ex.pure (fun p e R s m args below meth c H locs cells slots Z ls hCx hL hf hl hce hsl hS hva hlen k => lv_imul hCx.x hCx.b hd k) (hN _ _ _ _ _ ha1)
  case iand =>
    obtain rfl : n = 1 := hlen0.symm
    obtain ⟨x, y, r, rfl, ha1⟩ := oII_inv ha
    exact Ex.pure (fun p e R s m args below meth c H locs cells slots Z ls hCx hL hf hl hce hsl hS hva hlen k => lv_iand hCx.x hCx.b hd k) (hN _ _ _ _ _ ha1)
  case ior =>
    obtain rfl : n = 1 := hlen0.symm
    obtain ⟨x, y, r, rfl, ha1⟩ := oII_inv ha
    exact Ex.pure (fun p e R s m args below meth c H locs cells slots Z ls hCx hL hf hl hce hsl hS hva hlen k => lv_ior hCx.x hCx.b hd k) (hN _ _ _ _ _ ha1)
  case ixor =>
    obtain rfl : n = 1 := hlen0.symm
    obtain ⟨x, y, r, rfl, ha1⟩ := oII_inv ha
    exact Ex.pure (fun p e R s m args below meth c H locs cells slots Z ls hCx hL hf hl hce hsl hS hva hlen k => lv_ixor hCx.x hCx.b hd k) (hN _ _ _ _ _ ha1)
  case ishl =>
    obtain rfl : n = 1 := hlen0.symm
    obtain ⟨x, y, r, rfl, ha1⟩ := oII_inv ha
    exact Ex.pure (fun p e R s m args below meth c H locs cells slots Z ls hCx hL hf hl hce hsl hS hva hlen k => lv_ishl hCx.x hCx.b hd k) (hN _ _ _ _ _ ha1)
  case ishr =>
    obtain rfl : n = 1 := hlen0.symm
    obtain ⟨x, y, r, rfl, ha1⟩ := oII_inv ha
    exact Ex.pure (fun p e R s m args below meth c H locs cells slots Z ls hCx hL hf hl hce hsl hS hva hlen k => lv_ishr hCx.x hCx.b hd k) (hN _ _ _ _ _ ha1)
  case idiv =>
    obtain rfl : n = 1 := hlen0.symm
    obtain ⟨x, y, r, rfl, h0, ha1⟩ := oII_inv ha
    exact Ex.pure (fun p e R s m args below meth c H locs cells slots Z ls hCx hL hf hl hce hsl hS hva hlen k => lv_idiv hCx.x hCx.b hd h0 k) (hN _ _ _ _ _ ha1)
  case iushr =>
    obtain rfl : n = 1 := hlen0.symm
    obtain ⟨x, y, r, rfl, ha1⟩ := oII_inv ha
    exact Ex.pure (fun p e R s m args below meth c H locs cells slots Z ls hCx hL hf hl hce hsl hS hva hlen k => lv_iushr hCx.x hCx.b hd rfl k) (hN _ _ _ _ _ ha1)
  case ladd =>
    obtain rfl : n = 1 := hlen0.symm
    obtain ⟨x, y, r, rfl, ha1⟩ := oLL_inv ha
    exact Ex.pure (fun p e R s m args below meth c H locs cells slots Z ls hCx hL hf hl hce hsl hS hva hlen k => lv_ladd hCx.x hCx.b hd k) (hN _ _ _ _ _ ha1)
  case lsub =>
    obtain rfl : n = 1 := hlen0.symm
    obtain ⟨x, y, r, rfl, ha1⟩ := oLL_inv ha
    exact Ex.pure (fun p e R s m args below meth c H locs cells slots Z ls hCx hL hf hl hce hsl hS hva hlen k => lv_lsub hCx.x hCx.b hd k) (hN _ _ _ _ _ ha1)
  case land =>
    obtain rfl : n = 1 := hlen0.symm
    obtain ⟨x, y, r, rfl, ha1⟩ := oLL_inv ha
    exact Ex.pure (fun p e R s m args below meth c H locs cells slots Z ls hCx hL hf hl hce hsl hS hva hlen k => lv_land hCx.x hCx.b hd k) (hN _ _ _ _ _ ha1)
  case lor =>
    obtain rfl : n = 1 := hlen0.symm
    obtain ⟨x, y, r, rfl, ha1⟩ := oLL_inv ha
    exact Ex.pure (fun p e R s m args below meth c H locs cells slots Z ls hCx hL hf hl hce hsl hS hva hlen k => lv_lor hCx.x hCx.b hd k) (hN _ _ _ _ _ ha1)
  case lxor =>
    obtain rfl : n = 1 := hlen0.symm
    obtain ⟨x, y, r, rfl, ha1⟩ := oLL_inv ha
    exact Ex.pure (fun p e R s m args below meth c H locs cells slots Z ls hCx hL hf hl hce hsl hS hva hlen k => lv_lxor hCx.x hCx.b hd k) (hN _ _ _ _ _ ha1)
  case lcmp =>
    obtain rfl : n = 1 := hlen0.symm
    obtain ⟨x, y, r, rfl, ha1⟩ := oLL_inv ha
    exact Ex.pure (fun p e R s m args below meth c H locs cells slots Z ls hCx hL hf hl hce hsl hS hva hlen k => W.lcmp hCx.x hCx.b hd k) (hN _ _ _ _ _ ha1)
  case lshl =>
    obtain rfl : n = 1 := hlen0.symm
    obtain ⟨x, y, r, rfl, ha1⟩ := oLI_inv ha
    exact Ex.pure (fun p e R s m args below meth c H locs cells slots Z ls hCx hL hf hl hce hsl hS hva hlen k => lv_lshl hCx.x hCx.b hd rfl k) (hN _ _ _ _ _ ha1)
  case lshr =>
    obtain rfl : n = 1 := hlen0.symm
    obtain ⟨x, y, r, rfl, ha1⟩ := oLI_inv ha
    exact Ex.pure (fun p e R s m args below meth c H locs cells slots Z ls hCx hL hf hl hce hsl hS hva hlen k => lv_lshr hCx.x hCx.b hd rfl k) (hN _ _ _ _ _ ha1)
  case lushr =>
    obtain rfl : n = 1 := hlen0.symm
    obtain ⟨x, y, r, rfl, ha1⟩ := oLI_inv ha
    exact Ex.pure (fun p e R s m args below meth c H locs cells slots Z ls hCx hL hf hl hce hsl hS hva hlen k => lv_lushr hCx.x hCx.b hd rfl k) (hN _ _ _ _ _ ha1)
  case i2l =>
    obtain rfl : n = 1 := hlen0.symm
    obtain ⟨x, r, rfl, ha1⟩ := oI_inv ha
    exact Ex.pure (fun p e R s m args below meth c H locs cells slots Z ls hCx hL hf hl hce hsl hS hva hlen k => lv_i2l hCx.x hCx.b hd rfl k) (hN _ _ _ _ _ ha1)
  case l2i =>
    obtain rfl : n = 1 := hlen0.symm
    obtain ⟨x, r, rfl, ha1⟩ := oL_inv ha
    exact Ex.pure (fun p e R s m args below meth c H locs cells slots Z ls hCx hL hf hl hce hsl hS hva hlen k => lv_l2i hCx.x hCx.b hd rfl k) (hN _ _ _ _ _ ha1)
  case i2c =>
    obtain rfl : n = 1 := hlen0.symm
    obtain ⟨x, r, rfl, ha1⟩ := oI_inv ha
    exact Ex.pure (fun p e R s m args below meth c H locs cells slots Z ls hCx hL hf hl hce hsl hS hva hlen k => lv_i2c hCx.x hCx.b hd rfl k) (hN _ _ _ _ _ ha1)
  case iconst v =>
    obtain rfl : n = 1 := hlen0.symm
    exact Ex.pure (fun p e R s m args below meth c H locs cells slots Z ls hCx hL hf hl hce hsl hS hva hlen k => lv_iconst hCx.x hCx.b hd (of_decide_eq_true hin) k) (hN _ _ _ _ _ ha)
  case bipush v =>
    obtain rfl : n = 2 := hlen0.symm
    exact Ex.pure (fun p e R s m args below meth c H locs cells slots Z ls hCx hL hf hl hce hsl hS hva hlen k => lv_bipush hCx.x hCx.b hd (of_decide_eq_true hin) k) (hN _ _ _ _ _ ha)
  case sipush v =>
    obtain rfl : n = 3 := hlen0.symm
    exact Ex.pure (fun p e R s m args below meth c H locs cells slots Z ls hCx hL hf hl hce hsl hS hva hlen k => lv_sipush hCx.x hCx.b hd (of_decide_eq_true hin) k) (hN _ _ _ _ _ ha)
  case lconst v =>
    obtain rfl : n = 1 := hlen0.symm
    exact Ex.pure (fun p e R s m args below meth c H locs cells slots Z ls hCx hL hf hl hce hsl hS hva hlen k => lv_lconst hCx.x hCx.b hd (of_decide_eq_true hin) k) (hN _ _ _ _ _ ha)
  case ldc2_w idx =>
    obtain rfl : n = 3 := hlen0.symm
    have hm := hX.2.1.2.2.2.2.2.2.2 _ (lk_mem (of_decide_eq_true hin))
    exact Ex.pure (fun p e R s m args below meth c H locs cells slots Z ls hCx hL hf hl hce hsl hS hva hlen k => W.ldc2 hCx.x hCx.b hCx.own (hCx.t hm rfl) rfl hd k) (hN _ _ _ _ _ ha)
  case ldc_w idx =>
    obtain rfl : n = 3 := hlen0.symm
    have hm := hX.2.1.2.2.2.2.2.2.1 _ (lk_mem (of_decide_eq_true hin))
    exact Ex.pure (fun p e R s m args below meth c H locs cells slots Z ls hCx hL hf hl hce hsl hS hva hlen k => lv_ldcw hCx.x hCx.b hCx.own (hCx.t hm rfl) hd k) (hN _ _ _ _ _ ha)
  case ldc idx =>
    obtain rfl : n = 2 := hlen0.symm
    replace ha : aLdc X (fun st => N ll st h bc bs) idx st := ha
    unfold aLdc at ha
    split at ha
    · rename_i kd r e
      rcases hX.2.1.2.2.1 _ (lk_mem e) with ⟨h1, i, tx, h2, h3⟩ | ⟨h1, h2, h3⟩
      · dsimp only at h1 h2 h3
        subst h2
        have e1 : (2 + i < 32) := by have := (List.getElem?_eq_some_iff.mp h3).1; have e9 : sAt.length = 11 := rfl; omega
        refine Ex.pure (fun p e R s m args below meth c H locs cells slots Z ls hCx hL hf hl hce hsl hS hva hlen k => ?_) (hN _ _ _ _ _ ha)
        have e2 : (rv w (.inr (.inr (2 + i))) : Value) = .ref (wX w (2 + i)) := by rw [show rv w (.inr (.inr (2 + i))) = rvr w (2 + i) from rfl, rvr_pos w (by omega), rho_ext w e1]
        rw [List.map_cons, e2] at k
        exact va_ldcS hCx.x hCx.b hCx.own (hCx.k.2.2.1 i _ h3) hd k
      · dsimp only at h1 h2 h3
        subst h2
        refine Ex.pure (fun p e R s m args below meth c H locs cells slots Z ls hCx hL hf hl hce hsl hS hva hlen k => ?_) (hN _ _ _ _ _ ha)
        have e2 : (rv w (.inr (.inr 24)) : Value) = .ref (wX w 24) := by rw [show rv w (.inr (.inr 24)) = rvr w 24 from rfl, rvr_pos w (by omega), rho_ext w (by omega)]
        rw [List.map_cons, e2] at k
        exact va_ldcM hCx.x hCx.b hCx.own (hCx.t h3 rfl) hCx.k.2.2.2.2.2.2.2.1 hd k
    · split at ha
      · rename_i v e2
        have hm := hX.2.1.2.2.2.2.2.2.1 _ (lk_mem e2)
        exact Ex.pure (fun p e R s m args below meth c H locs cells slots Z ls hCx hL hf hl hce hsl hS hva hlen k => lv_ldc hCx.x hCx.b hCx.own (hCx.t hm rfl) hd k) (hN _ _ _ _ _ ha)
      · exact ha.elim
  case aconst_null =>
    obtain rfl : n = 1 := hlen0.symm
    exact Ex.pure (fun p e R s m args below meth c H locs cells slots Z ls hCx hL hf hl hce hsl hS hva hlen k => lv_null hCx.x hCx.b hd k) (hN _ _ _ _ _ ha)
  case iload i =>
    obtain rfl : n = 2 := hlen0.symm
    obtain ⟨x, hx, ha1⟩ := ldI_inv (l := ll) (k := i) (K := fun v => N ll (v :: st) h bc bs) ha
    exact Ex.pure (fun p e R s m args below meth c H locs cells slots Z ls hCx hL hf hl hce hsl hS hva hlen k => lv_iload hCx.x hCx.b hd (hL.2.2 _ _ hx) k) (hN _ _ _ _ _ ha1)
  case iload_n i =>
    obtain rfl : n = 1 := hlen0.symm
    obtain ⟨x, hx, ha1⟩ := ldI_inv (l := ll) (k := i.val) (K := fun v => N ll (v :: st) h bc bs) ha
    exact Ex.pure (fun p e R s m args below meth c H locs cells slots Z ls hCx hL hf hl hce hsl hS hva hlen k => lv_iload_n hCx.x hCx.b hd rfl (hL.2.2 _ _ hx) k) (hN _ _ _ _ _ ha1)
  case lload i =>
    obtain rfl : n = 2 := hlen0.symm
    obtain ⟨x, hx, ha1⟩ := ldL_inv (l := ll) (k := i) (K := fun v => N ll (v :: st) h bc bs) ha
    exact Ex.pure (fun p e R s m args below meth c H locs cells slots Z ls hCx hL hf hl hce hsl hS hva hlen k => lv_lload hCx.x hCx.b hd (hL.2.2 _ _ hx) k) (hN _ _ _ _ _ ha1)
  case lload_n i =>
    obtain rfl : n = 1 := hlen0.symm
    obtain ⟨x, hx, ha1⟩ := ldL_inv (l := ll) (k := i.val) (K := fun v => N ll (v :: st) h bc bs) ha
    exact Ex.pure (fun p e R s m args below meth c H locs cells slots Z ls hCx hL hf hl hce hsl hS hva hlen k => lv_lload_n hCx.x hCx.b hd rfl (hL.2.2 _ _ hx) k) (hN _ _ _ _ _ ha1)
  case aload i =>
    obtain rfl : n = 2 := hlen0.symm
    obtain ⟨x, hx, ha1⟩ := ldR_inv (l := ll) (k := i) (K := fun v => N ll (v :: st) h bc bs) ha
    exact Ex.pure (fun p e R s m args below meth c H locs cells slots Z ls hCx hL hf hl hce hsl hS hva hlen k => w_aload hCx.x hCx.b hd (hL.2.2 _ _ hx) k) (hN _ _ _ _ _ ha1)
  case aload_n i =>
    obtain rfl : n = 1 := hlen0.symm
    obtain ⟨x, hx, ha1⟩ := ldR_inv (l := ll) (k := i.val) (K := fun v => N ll (v :: st) h bc bs) ha
    exact Ex.pure (fun p e R s m args below meth c H locs cells slots Z ls hCx hL hf hl hce hsl hS hva hlen k => w_aload_n hCx.x hCx.b hd (hL.2.2 _ _ hx) k) (hN _ _ _ _ _ ha1)
  case istore i =>
    obtain rfl : n = 2 := hlen0.symm
    obtain ⟨x, r, rfl, ha1⟩ := oI_inv ha
    exact so_store1 rfl ha1 (fun l2 hk => hN _ _ _ _ _ hk) (fun p e R s m args below meth c H locs cells slots Z ls ls' hCx hL e' k => w_istore hCx.x hCx.b hd e' k)
  case istore_n i =>
    obtain rfl : n = 1 := hlen0.symm
    obtain ⟨x, r, rfl, ha1⟩ := oI_inv ha
    exact so_store1 rfl ha1 (fun l2 hk => hN _ _ _ _ _ hk) (fun p e R s m args below meth c H locs cells slots Z ls ls' hCx hL e' k => w_istore_n hCx.x hCx.b hd e' k)
  case astore i =>
    obtain rfl : n = 2 := hlen0.symm
    obtain ⟨x, r, rfl, ha1⟩ := oR_inv ha
    exact so_store1 rfl ha1 (fun l2 hk => hN _ _ _ _ _ hk) (fun p e R s m args below meth c H locs cells slots Z ls ls' hCx hL e' k => w_astore hCx.x hCx.b hd e' k)
  case astore_n i =>
    obtain rfl : n = 1 := hlen0.symm
    obtain ⟨x, r, rfl, ha1⟩ := oR_inv ha
    exact so_store1 rfl ha1 (fun l2 hk => hN _ _ _ _ _ hk) (fun p e R s m args below meth c H locs cells slots Z ls ls' hCx hL e' k => w_astore_n hCx.x hCx.b hd e' k)
  case lstore i =>
    obtain rfl : n = 2 := hlen0.symm
    obtain ⟨x, r, rfl, ha1⟩ := oL_inv ha
    exact so_store2 rfl ha1 (fun l2 hk => hN _ _ _ _ _ hk) (fun p e R s m args below meth c H locs cells slots Z ls ls' hCx hL e' k => w_lstore hCx.x hCx.b hd e' k)
  case lstore_n i =>
    obtain rfl : n = 1 := hlen0.symm
    obtain ⟨x, r, rfl, ha1⟩ := oL_inv ha
    exact so_store2 rfl ha1 (fun l2 hk => hN _ _ _ _ _ hk) (fun p e R s m args below meth c H locs cells slots Z ls ls' hCx hL e' k => w_lstore_n hCx.x hCx.b hd e' k)
  case iinc i v =>
    obtain rfl : n = 3 := hlen0.symm
    obtain ⟨x, hx, ha1⟩ := ldI_inv (l := ll) (k := i) (K := fun v => oI [v] (fun x _ => st1 ll i (.inl (x + cv)) (fun l2 => N l2 st h bc bs))) ha
    exact so_store1 (v := .inl (x + cv)) rfl ha1 (fun l2 hk => hN _ _ _ _ _ hk) (fun p e R s m args below meth c H locs cells slots Z ls ls' hCx hL e' k => w_iinc hCx.x hCx.b hd (hL.2.2 _ _ hx) (by rw [of_decide_eq_true hin]) e' k)
  case pop =>
    obtain rfl : n = 1 := hlen0.symm
    match st, ha with
    | v :: r, ha => exact Ex.pure (fun p e R s m args below meth c H locs cells slots Z ls hCx hL hf hl hce hsl hS hva hlen k => lv_pop hCx.x hCx.b hd (by rw [rv_cat]; exact Nat.eq_of_beq_eq_true (ifB_inv ha).1) k) (hN _ _ _ _ _ (ifB_inv ha).2)
  case dup =>
    obtain rfl : n = 1 := hlen0.symm
    match st, ha with
    | v :: r, ha => exact Ex.pure (fun p e R s m args below meth c H locs cells slots Z ls hCx hL hf hl hce hsl hS hva hlen k => lv_dup hCx.x hCx.b hd (by rw [rv_cat]; exact Nat.eq_of_beq_eq_true (ifB_inv ha).1) k) (hN _ _ _ _ _ (ifB_inv ha).2)
  case dup_x1 =>
    obtain rfl : n = 1 := hlen0.symm
    match st, ha with
    | v :: u :: r, ha => exact Ex.pure (fun p e R s m args below meth c H locs cells slots Z ls hCx hL hf hl hce hsl hS hva hlen k => lv_dup_x1 hCx.x hCx.b hd (by rw [rv_cat]; exact Nat.eq_of_beq_eq_true (ifB_inv ha).1) (by rw [rv_cat]; exact Nat.eq_of_beq_eq_true (ifB_inv (ifB_inv ha).2).1) k) (hN _ _ _ _ _ (ifB_inv (ifB_inv ha).2).2)
  case dup2 =>
    obtain rfl : n = 1 := hlen0.symm
    match st, ha with
    | .inr (.inl v) :: r, ha => exact Ex.pure (fun p e R s m args below meth c H locs cells slots Z ls hCx hL hf hl hce hsl hS hva hlen k => lv_dup2_2 hCx.x hCx.b hd rfl k) (hN _ _ _ _ _ ha)
    | .inl v :: u :: r, ha => exact Ex.pure (fun p e R s m args below meth c H locs cells slots Z ls hCx hL hf hl hce hsl hS hva hlen k => lv_dup2_11 hCx.x hCx.b hd (by rw [rv_cat]; rfl) (by rw [rv_cat]; exact Nat.eq_of_beq_eq_true (ifB_inv ha).1) k) (hN _ _ _ _ _ (ifB_inv ha).2)
    | .inr (.inr v) :: u :: r, ha => exact Ex.pure (fun p e R s m args below meth c H locs cells slots Z ls hCx hL hf hl hce hsl hS hva hlen k => lv_dup2_11 hCx.x hCx.b hd (by rw [rv_cat]; rfl) (by rw [rv_cat]; exact Nat.eq_of_beq_eq_true (ifB_inv ha).1) k) (hN _ _ _ _ _ (ifB_inv ha).2)
    | [], ha => exact ha.elim
    | [.inl v], ha => exact ha.elim
    | [.inr (.inr v)], ha => exact ha.elim
  case ifCond k o =>
    obtain rfl : n = 3 := hlen0.symm
    obtain ⟨x, r, rfl, ha1⟩ := oI_inv ha
    have ht := of_decide_eq_true hin
    cases k with
    | eq => exact Ex.both (fun p e R s m args below meth c H locs cells slots Z ls hCx hS k1 k2 => lv_if_eq hCx.x hCx.b hd ht k1 k2) (fun q => hJ _ _ _ _ _ (ha1.1 q)) (fun q => hE _ _ _ _ _ (ha1.2 q))
    | ne => exact Ex.both (fun p e R s m args below meth c H locs cells slots Z ls hCx hS k1 k2 => lv_if_ne hCx.x hCx.b hd ht k1 k2) (fun q => hJ _ _ _ _ _ (ha1.1 q)) (fun q => hE _ _ _ _ _ (ha1.2 q))
    | lt => exact Ex.both (fun p e R s m args below meth c H locs cells slots Z ls hCx hS k1 k2 => lv_if_lt hCx.x hCx.b hd ht k1 k2) (fun q => hJ _ _ _ _ _ (ha1.1 q)) (fun q => hE _ _ _ _ _ (ha1.2 q))
    | ge => exact Ex.both (fun p e R s m args below meth c H locs cells slots Z ls hCx hS k1 k2 => lv_if_ge hCx.x hCx.b hd ht k1 k2) (fun q => hJ _ _ _ _ _ (ha1.1 q)) (fun q => hE _ _ _ _ _ (ha1.2 q))
    | gt => exact Ex.both (fun p e R s m args below meth c H locs cells slots Z ls hCx hS k1 k2 => lv_if_gt hCx.x hCx.b hd ht k1 k2) (fun q => hJ _ _ _ _ _ (ha1.1 q)) (fun q => hE _ _ _ _ _ (ha1.2 q))
    | le => exact Ex.both (fun p e R s m args below meth c H locs cells slots Z ls hCx hS k1 k2 => lv_if_le hCx.x hCx.b hd ht k1 k2) (fun q => hJ _ _ _ _ _ (ha1.1 q)) (fun q => hE _ _ _ _ _ (ha1.2 q))
  case if_icmp k o =>
    obtain rfl : n = 3 := hlen0.symm
    obtain ⟨x, y, r, rfl, ha1⟩ := oII_inv ha
    have ht := of_decide_eq_true hin
    cases k with
    | eq => exact Ex.both (fun p e R s m args below meth c H locs cells slots Z ls hCx hS k1 k2 => lv_icmp_eq hCx.x hCx.b hd ht k1 k2) (fun q => hJ _ _ _ _ _ (ha1.1 q)) (fun q => hE _ _ _ _ _ (ha1.2 q))
    | ne => exact Ex.both (fun p e R s m args below meth c H locs cells slots Z ls hCx hS k1 k2 => lv_icmp_ne hCx.x hCx.b hd ht k1 k2) (fun q => hJ _ _ _ _ _ (ha1.1 q)) (fun q => hE _ _ _ _ _ (ha1.2 q))
    | lt => exact Ex.both (fun p e R s m args below meth c H locs cells slots Z ls hCx hS k1 k2 => lv_icmp_lt hCx.x hCx.b hd ht k1 k2) (fun q => hJ _ _ _ _ _ (ha1.1 q)) (fun q => hE _ _ _ _ _ (ha1.2 q))
    | ge => exact Ex.both (fun p e R s m args below meth c H locs cells slots Z ls hCx hS k1 k2 => lv_icmp_ge hCx.x hCx.b hd ht k1 k2) (fun q => hJ _ _ _ _ _ (ha1.1 q)) (fun q => hE _ _ _ _ _ (ha1.2 q))
    | gt => exact Ex.both (fun p e R s m args below meth c H locs cells slots Z ls hCx hS k1 k2 => lv_icmp_gt hCx.x hCx.b hd ht k1 k2) (fun q => hJ _ _ _ _ _ (ha1.1 q)) (fun q => hE _ _ _ _ _ (ha1.2 q))
    | le => exact Ex.both (fun p e R s m args below meth c H locs cells slots Z ls hCx hS k1 k2 => lv_icmp_le hCx.x hCx.b hd ht k1 k2) (fun q => hJ _ _ _ _ _ (ha1.1 q)) (fun q => hE _ _ _ _ _ (ha1.2 q))
  case if_acmp k o =>
    obtain rfl : n = 3 := hlen0.symm
    obtain ⟨x, y, r, rfl, hok, ha1⟩ := oRR_inv ha
    have ht := of_decide_eq_true hin
    have hiff : ∀ {s : State}, WK w s → (rvo w x = rvo w y ↔ x = y) := fun hK => ⟨fun e => rvo_inj hK hok e, fun e => by rw [e]⟩
    cases k with
    | eq => exact Ex.both (fun p e R s m args below meth c H locs cells slots Z ls hCx hS k1 k2 => lv_acmp_eq (rx := rvo w x) (ry := rvo w y) hCx.x hCx.b hd ht (fun q => k1 ((hiff hCx.k).mp q)) (fun q => k2 (fun z => q ((hiff hCx.k).mpr z)))) (fun q => hJ _ _ _ _ _ (ha1.1 q)) (fun q => hE _ _ _ _ _ (ha1.2 q))
    | ne => exact Ex.both (fun p e R s m args below meth c H locs cells slots Z ls hCx hS k1 k2 => lv_acmp_ne (rx := rvo w x) (ry := rvo w y) hCx.x hCx.b hd ht (fun q => k1 (fun z => q ((hiff hCx.k).mpr z))) (fun q => k2 ((hiff hCx.k).mp q))) (fun q => hJ _ _ _ _ _ (ha1.1 q)) (fun q => hE _ _ _ _ _ (ha1.2 q))
  case ifnull o =>
    obtain rfl : n = 3 := hlen0.symm
    obtain ⟨x, r, rfl, ha1, ha2⟩ := oR_inv ha
    have ht := of_decide_eq_true hin
    refine Ex.both (fun p e R s m args below meth c H locs cells slots Z ls hCx hS k1 k2 => ?_) (fun q => hJ _ _ _ _ _ (ha1 q)) (fun q => hE _ _ _ _ _ (ha2 q))
    by_cases h0 : x = 0
    · subst h0
      exact lv_ifnullN hCx.x hCx.b hd ht (k1 rfl)
    · rw [List.map_cons, show rv w (.inr (.inr x)) = rvr w x from rfl, rvr_pos w h0]
      exact lv_ifnull hCx.x hCx.b hd (k2 h0)
  case ifnonnull o =>
    obtain rfl : n = 3 := hlen0.symm
    obtain ⟨x, r, rfl, ha1, ha2⟩ := oR_inv ha
    have ht := of_decide_eq_true hin
    refine Ex.both (fun p e R s m args below meth c H locs cells slots Z ls hCx hS k1 k2 => ?_) (fun q => hJ _ _ _ _ _ (ha1 q)) (fun q => hE _ _ _ _ _ (ha2 q))
    by_cases h0 : x = 0
    · subst h0
      exact lv_ifnonnullN hCx.x hCx.b hd (k2 rfl)
    · rw [List.map_cons, show rv w (.inr (.inr x)) = rvr w x from rfl, rvr_pos w h0]
      exact lv_ifnonnull hCx.x hCx.b hd ht (k1 h0)
  case goto o =>
    obtain rfl : n = 3 := hlen0.symm
    exact Ex.pure (fun p e R s m args below meth c H locs cells slots Z ls hCx hL hf hl hce hsl hS hva hlen k => lv_goto hCx.x hCx.b hd (of_decide_eq_true hin) k) (hJ _ _ _ _ _ ha)
  case getfield idx =>
    obtain rfl : n = 3 := hlen0.symm
    exact so_get hX hd (fun st q => hN _ _ _ _ _ q) ha
  case putfield idx =>
    obtain rfl : n = 3 := hlen0.symm
    refine so_put hX hd (fun ci k kd key r e hr hf => ?_) (fun st h q => hN _ _ _ _ _ q) ha
    replace hin : (match lk X.2.2.1 idx with
      | some (ci, k, _) => (match vwCl[ci]? with
        | some q => !(q.2.1 k).2.2.2 || (decide (X.1.1.name = "<init>") && decide ((q.2.1 k).1 = X.1.1.cls))
        | none => false)
      | none => true) = true := hin
    rw [e] at hin
    dsimp only at hin
    rw [hr] at hin
    dsimp only at hin
    rw [hf] at hin
    simpa using hin
  case getstatic idx =>
    obtain rfl : n = 3 := hlen0.symm
    replace ha : aStat X (fun st => N ll st h bc bs) idx st := ha
    unfold aStat at ha
    split at ha
    · rename_i e
      rcases hX.2.1.2.2.2.2.1 _ (lk_mem e) with ⟨h1, h2⟩ | ⟨h1, h2⟩ | ⟨h1, h2⟩
      · refine Ex.pure (fun p e R s m args below meth c H locs cells slots Z ls hCx hL hf hl hce hsl hS hva hlen k => ?_) (hN _ _ _ _ _ ha)
        have e2 : (rv w (.inr (.inr 1)) : Value) = .ref (wX w 1) := by rw [show rv w (.inr (.inr 1)) = rvr w 1 from rfl, rvr_pos w (by omega), rho_ext w (by omega)]
        rw [List.map_cons, e2] at k
        exact va_gets hCx.x hCx.b hCx.k.2.2.2.1 hva hCx.own (hCx.t h2 rfl) (fun _ q => q) hd k
      · cases h1
      · cases h1
    · rename_i e
      rcases hX.2.1.2.2.2.2.1 _ (lk_mem e) with ⟨h1, h2⟩ | ⟨h1, h2⟩ | ⟨h1, h2⟩
      · cases h1
      · exact Ex.pure (fun p e R s m args below meth c H locs cells slots Z ls hCx hL hf hl hce hsl hS hva hlen k => va_gets hCx.x hCx.b hCx.k.2.2.2.2.2.1 hva hCx.own (hCx.t h2 rfl) (fun _ q => q) hd k) (hN _ _ _ _ _ ha)
      · cases h1
    · rename_i e
      rcases hX.2.1.2.2.2.2.1 _ (lk_mem e) with ⟨h1, h2⟩ | ⟨h1, h2⟩ | ⟨h1, h2⟩
      · cases h1
      · cases h1
      · intro p e R s m args below meth c H locs cells slots ls hCx hf hl hcl0 hsl0 hS hL hlen hva
        obtain ⟨r, hr, -⟩ := hCx.k.2.2.2.2.2.2.1
        exact va_gets hCx.x hCx.b hr hva hCx.own (hCx.t h2 rfl) (fun _ q => q) hd (hN _ _ _ _ _ (ha r) p e R s m args below meth c H locs cells slots ls hCx hf hl hcl0 hsl0 hS hL hlen hva)
    · exact ha.elim
  case new idx =>
    obtain rfl : n = 3 := hlen0.symm
    exact so_new hX hd (fun st h b s q => hN _ _ _ _ _ q) ha
  case newarray t =>
    obtain rfl : n = 2 := hlen0.symm
    exact so_arr hd (fun st h b s q => hN _ _ _ _ _ q) ha
  case anewarray idx =>
    obtain rfl : n = 3 := hlen0.symm
    obtain ⟨n, r, rfl, h0, h6, b2, s2, rfl, rfl, ha1⟩ := oI_inv ha
    refine so_anew hd ?_ h0 h6 (hN _ _ _ _ _ ha1)
    replace hin : ((decide (X.1.1.cls = "java/util/ArrayList") && Nat.beq idx 7) || (decide (X.1.1.cls = "java/util/Arrays") && Nat.beq idx 2)) = true := hin
    rw [Bool.or_eq_true, Bool.and_eq_true, Bool.and_eq_true, decide_eq_true_eq, decide_eq_true_eq] at hin
    rcases hin with ⟨q1, q2⟩ | ⟨q1, q2⟩
    · rw [q1, Nat.eq_of_beq_eq_true q2]
      exact clAL7
    · rw [q1, Nat.eq_of_beq_eq_true q2]
      exact clAr2
  case arraylength =>
    obtain rfl : n = 1 := hlen0.symm
    obtain ⟨a, r, rfl, ha1⟩ := oR_inv ha
    exact so_alen hd (N := fun st => N ll st h bc bs) (fun st q => hN _ _ _ _ _ q) ha1
  case iaload =>
    obtain rfl : n = 1 := hlen0.symm
    obtain ⟨a, j, r, rfl, h1, h3⟩ := oRI_inv ha
    exact so_iald hd h1 (hN _ _ _ _ _ h3)
  case baload =>
    obtain rfl : n = 1 := hlen0.symm
    obtain ⟨a, j, r, rfl, h1, h3⟩ := oRI_inv ha
    exact so_bald hd h1.1 h1.2 (hN _ _ _ _ _ h3)
  case laload =>
    obtain rfl : n = 1 := hlen0.symm
    obtain ⟨a, j, r, rfl, h1, h3⟩ := oRI_inv ha
    exact so_lald hd h1.1 h1.2 (hN _ _ _ _ _ h3)
  case aaload =>
    obtain rfl : n = 1 := hlen0.symm
    obtain ⟨a, j, r, rfl, h1, h3⟩ := oRI_inv ha
    exact so_aald hd h1.1 h1.2 (hN _ _ _ _ _ h3)
  case iastore =>
    obtain rfl : n = 1 := hlen0.symm
    obtain ⟨x, r1, rfl, ha1⟩ := oI_inv ha
    obtain ⟨a, j, r, rfl, h1, h3⟩ := oRI_inv ha1
    exact so_iast hd h1.1 h1.2 (hN _ _ _ _ _ h3)
  case bastore =>
    obtain rfl : n = 1 := hlen0.symm
    obtain ⟨x, r1, rfl, ha1⟩ := oI_inv ha
    obtain ⟨a, j, r, rfl, h1, h4, h3⟩ := oRI_inv ha1
    exact so_bast hd h1.1 h1.2 h4 (hN _ _ _ _ _ h3)
  case lastore =>
    obtain rfl : n = 1 := hlen0.symm
    obtain ⟨x, r1, rfl, ha1⟩ := oL_inv ha
    obtain ⟨a, j, r, rfl, h1, h3⟩ := oRI_inv ha1
    exact so_last hd h1.1 h1.2 (hN _ _ _ _ _ h3)
  case aastore =>
    obtain rfl : n = 1 := hlen0.symm
    obtain ⟨x, r1, rfl, ha1⟩ := oR_inv ha
    obtain ⟨a, j, r, rfl, ⟨h1, h32, h4⟩, h3⟩ := oRI_inv ha1
    exact so_aast hd h1.1 h32 h4 h1.2 (hN _ _ _ _ _ h3)
  case ireturn =>
    obtain rfl : n = 1 := hlen0.symm
    obtain ⟨x, r, rfl, ha1⟩ := oI_inv ha
    cases r with
    | nil =>
      dsimp only at ha1
      split at ha1
      · rename_i e1; exact so_iret hd (by rw [e1]; trivial) ha1
      · rename_i e1; exact so_iret hd (by rw [e1]; exact ha1.1) ha1.2
      · rename_i e1; exact so_iret hd (by rw [e1]; exact ha1.1) ha1.2
      · rename_i e1; exact so_iret hd (by rw [e1]; exact ha1.1) ha1.2
      · exact ha1.elim
    | cons _ _ => exact ha1.elim
  case lreturn =>
    obtain rfl : n = 1 := hlen0.symm
    obtain ⟨x, r, rfl, ha1⟩ := oL_inv ha
    cases r with
    | nil => exact so_lret hd (of_decide_eq_true hin) ha1
    | cons _ _ => exact ha1.elim
  case areturn =>
    obtain rfl : n = 1 := hlen0.symm
    obtain ⟨x, r, rfl, ha1⟩ := oR_inv ha
    cases r with
    | nil =>
      refine so_aret hd ?_ ha1
      replace hin : (match X.1.2.2.2 with
        | some (.object _) => true
        | some (.array _) => true
        | _ => false) = true := hin
      split at hin
      · rename_i e
        exact ⟨_, e, Or.inl ⟨_, rfl⟩⟩
      · rename_i e
        exact ⟨_, e, Or.inr ⟨_, rfl⟩⟩
      · cases hin
    | cons _ _ => exact ha1.elim
  case return_ =>
    obtain rfl : n = 1 := hlen0.symm
    cases st with
    | nil => exact so_vret hd (of_decide_eq_true hin) ha
    | cons _ _ => exact ha.elim
  case checkcast idx =>
    obtain rfl : n = 3 := hlen0.symm
    obtain ⟨a, r, rfl, h1, h2⟩ := oR_inv ha
    refine Ex.pure (fun p e R s m args below meth c H locs cells slots Z ls hCx hL hf hl hce hsl hS hva hlen k => ?_) (hN _ _ _ _ _ h2)
    replace hin : ((lk X.2.2.2.2.2.1 idx).isSome || (decide (X.1.1.cls = "java/util/Arrays") && Nat.beq idx 110)) = true := hin
    split at h1
    · rename_i ci e
      obtain ⟨q, hq, hcl, -, -⟩ := hX.2.1.2.2.2.1 _ (lk_mem e)
      dsimp only at hq hcl
      rcases h1 with rfl | hc
      · exact lv_castN hCx.x hCx.b hd k
      · obtain ⟨b1, -, -⟩ := hS.obj hc hq
        rw [List.map_cons, rvR b1] at k ⊢
        exact va_castS hCx.x hCx.b hCx.own (hCx.t hcl rfl) (hCx.k.tab.1 ci q hq).2 (hS.recv hCx.k.tab hc hq) hd k
    · rename_i e0
      rw [e0] at hin
      simp only [Option.isSome_none, Bool.false_or, Bool.and_eq_true, decide_eq_true_eq] at hin
      have hcl : Cond.classLink X.1.1.cls idx "[Ljava/lang/Object;" ∈ lw_tbl := by
        rw [hin.1, Nat.eq_of_beq_eq_true hin.2]
        exact clAr110
      have hfc : s.vm.findClass "[Ljava/lang/Object;" = some (wA w 3) := by
        obtain ⟨kA, comp, -, -, -, q⟩ := (hCx.k.tab.2 3 _ rfl).2
        exact q
      have fin : ∀ (z : Nat) (cz : Cell), rv w (.inr (.inr a)) = .ref z → H[z]? = some cz → cz.cls = wA w 3 → cz.vm.isStatics = false → W p l e R s m args below meth c H locs cells slots Z (F0 m pc ls (List.map (rv w) (.inr (.inr a) :: r))) := by
        intro z cz e1 hz hzc hzs
        rw [List.map_cons, e1] at k ⊢
        intro T hT XX
        obtain ⟨vm', X', st⟩ := XX.checkcastYes hCx.x hCx.own (hCx.t hcl rfl) (by rw [hT]; exact hz) hzs hfc (by rw [hzc]; exact va_asg _ _) (g := F0 m pc ls (.ref z :: List.map (rv w) r)) rfl rfl (by rw [hCx.b]; exact hd)
        obtain ⟨t, a1, b1⟩ := k (T.setVm vm') hT X'
        exact ⟨t, st t a1, b1⟩
      rcases hS.arrO h1 with ⟨q1, -, q⟩ | ⟨q1, q2⟩
      · exact fin _ _ (rvR q1) q rfl rfl
      · subst q1
        obtain ⟨⟨cz, g1, g2, g3, -⟩, g6⟩ := hCx.k.2.2.2.2.1
        exact fin (wX w 1) cz (by rw [show rv w (.inr (.inr 1)) = rvr w 1 from rfl, rvr_pos w (by omega), rho_ext w (by omega)]) ((hva.low hCx.k.base g6).trans g1) g2 g3
  case tableswitch dflt lo hi offs =>
    obtain ⟨x, r, rfl, ha1, ha2⟩ := oI_inv ha
    replace hin : ((decide (hi + 1 = lo + offs.toList.length) && decide (0 ≤ (pc : Int) + dflt)) && offs.toList.all (fun o => decide (0 ≤ (pc : Int) + o))) = true := hin
    rw [Bool.and_eq_true, Bool.and_eq_true, decide_eq_true_eq, decide_eq_true_eq, List.all_eq_true] at hin
    obtain ⟨⟨q1, q2⟩, q3⟩ := hin
    by_cases hout : x.toInt < lo ∨ hi < x.toInt
    · exact Ex.pure (fun p e R s m args below meth c H locs cells slots Z ls hCx hL hf hl hce hsl hS hva hlen k => lv_tableOut hCx.x hCx.b hd hout (by omega) k) (hG _ _ _ _ _ _ (ha2 hout))
    · have h1 : ¬ x.toInt < lo := fun z => hout (Or.inl z)
      have h2 : ¬ hi < x.toInt := fun z => hout (Or.inr z)
      have go : ∀ (L : List Int) (v : Int) (K : Int → Prop), swc x v L K → ∀ k, k < L.length → x.toInt = v + k → ∃ o, L[k]? = some o ∧ K o := by
        intro L
        induction L with
        | nil => intro v K _ k hk; exact absurd hk (Nat.not_lt_zero _)
        | cons o L ih =>
          intro v K hs k hk hx
          cases k with
          | zero => exact ⟨o, rfl, hs.1 (by simpa using hx)⟩
          | succ k => exact ih (v + 1) K hs.2 k (by simpa using hk) (by rw [hx]; push_cast; omega)
      obtain ⟨o, ho, hK⟩ := go offs.toList lo _ ha1 (x.toInt - lo).toNat (by omega) (by omega)
      have hm : o ∈ offs.toList := List.mem_of_getElem? ho
      have h0 := of_decide_eq_true (q3 o hm)
      exact Ex.pure (fun p e R s m args below meth c H locs cells slots Z ls hCx hL hf hl hce hsl hS hva hlen k => lv_tableIn hCx.x hCx.b hd h1 h2 (by rw [← Array.getElem?_toList]; exact ho) (by omega) k) (hG _ _ _ _ _ _ hK)
  case invokevirtual idx =>
    obtain rfl : n = 3 := hlen0.symm
    replace ha : aCall l w X d lm (fun st => N ll st h bc bs) (fun st h => N ll st h bc bs) (fun v r h c s => E ll (v.toList ++ r) h c s) idx st h bc bs := ha
    unfold aCall at ha
    split at ha
    · rename_i kd tag np M e
      have hM := hX.2.1.2.1 _ (lk_mem e)
      replace hin : (match lk X.2.2.2.1 idx with
        | some (kd, _) => Nat.beq kd 0 || Nat.beq kd 7
        | none => true) = true := hin
      rw [e] at hin
      dsimp only at hin
      rw [Bool.or_eq_true] at hin
      rcases hin with q | q
      · obtain rfl := Nat.eq_of_beq_eq_true q
        obtain ⟨as, r1, g1, g2, ha1⟩ := popK_inv ha
        rw [List.append_nil] at ha1
        obtain ⟨a, r, rfl, ha4⟩ := oR_inv ha1
        exact so_recv (fun g3 ha5 => by
          obtain ⟨g4, ha2⟩ := ifB_inv ha5
          cases d with
          | zero => exact ha2.elim
          | succ d => exact so_callV hX hd hM g1 g3 (Nat.le_of_ble_eq_true g4) g2 ha2 (fun v h' c s q => hE _ _ _ _ _ q)) (plM0 hM).symm ha4
      · obtain rfl := Nat.eq_of_beq_eq_true q
        obtain ⟨a, r, rfl, ha8⟩ := oR_inv ha
        obtain ⟨g2, ha9⟩ := nz_inv ha8
        obtain ⟨g30, g1, ha1⟩ := ifB_inv ha9
        have g3 := Nat.le_of_ble_eq_true g30
        refine Ex.pure (fun p e R s m args below meth c H locs cells slots Z ls hCx hL hf hl hce hsl hS hva hlen k => ?_) (hN _ _ _ _ _ ha1)
        have hml : c.maxLocals = ls.size := by rw [hCx.ml, hL.1, hlen]
        have hlo : ((r.map (rv w)).map fun v => v.category).sum + 14 ≤ R.locals := by rw [rv_cats, hl]; omega
        have hfc : s.vm.findClass "[Ljava/lang/Object;" = some (wA w 3) := by
          obtain ⟨kA, comp, -, -, -, q⟩ := (hCx.k.tab.2 3 _ rfl).2
          exact q
        have fin : ∀ (z : Nat) (cz : Cell), rv w (.inr (.inr a)) = .ref z → H[z]? = some cz → cz.cls = wA w 3 → cz.vm.isStatics = false → W p l e R s m args below meth c H locs cells slots Z (F0 m pc ls (List.map (rv w) (.inr (.inr a) :: r))) := by
          intro z cz e1 hz hzc hzs
          rw [List.map_cons, e1]
          rw [List.map_cons, show rv w (.inr (.inr 24)) = rvr w 24 from rfl, rvr_pos w (by omega), rho_ext w (by omega)] at k
          exact va_getC hCx.x hCx.b hml hCx.own (hCx.t hM rfl) (va_Dc.use hCx.k.2.2.2.2.2.2.2.2.1) (hCx.t gcSel rfl) (hCx.t gcInst rfl) (hCx.t gcNative rfl) hCx.k.2.2.2.2.2.2.2.1 ⟨_, hz, hzs, by rw [hzc]; exact hfc⟩ (by rw [hf]; omega) hlo hd k
        rcases hS.arrO g1 with ⟨q1, -, q⟩ | ⟨q1, q2⟩
        · exact fin _ _ (rvR q1) q rfl rfl
        · subst q1
          obtain ⟨⟨cz, g1, g2, g3, -⟩, g6⟩ := hCx.k.2.2.2.2.1
          exact fin (wX w 1) cz (by rw [show rv w (.inr (.inr 1)) = rvr w 1 from rfl, rvr_pos w (by omega), rho_ext w (by omega)]) ((hva.low hCx.k.base g6).trans g1) g2 g3
    · exact ha.elim
  case invokestatic idx =>
    obtain rfl : n = 3 := hlen0.symm
    replace ha : aCall l w X d lm (fun st => N ll st h bc bs) (fun st h => N ll st h bc bs) (fun v r h c s => E ll (v.toList ++ r) h c s) idx st h bc bs := ha
    unfold aCall at ha
    split at ha
    · rename_i kd tag np M e
      have hM := hX.2.1.2.1 _ (lk_mem e)
      replace hin : (match lk X.2.2.2.1 idx with
        | some (kd, _) => Nat.beq kd 1 || Nat.beq kd 6 || Nat.beq kd 8 || Nat.beq kd 9
        | none => true) = true := hin
      rw [e] at hin
      dsimp only at hin
      rw [Bool.or_eq_true, Bool.or_eq_true, Bool.or_eq_true] at hin
      rcases hin with ((q | q) | q) | q
      · obtain rfl := Nat.eq_of_beq_eq_true q
        obtain ⟨as, r1, g1, g2, ha1⟩ := popK_inv ha
        rw [List.append_nil] at ha1
        obtain ⟨g4, ha2⟩ := ifB_inv ha1
        cases d with
        | zero => exact ha2.elim
        | succ d => exact so_callS hX hd hM g1 (Nat.le_of_ble_eq_true g4) g2 ha2 (fun v h' c s q => hE _ _ _ _ _ q)
      · obtain rfl := Nat.eq_of_beq_eq_true q
        exact so_copy hX hd hM (fun st h q => hN _ _ _ _ _ q) ha
      · obtain rfl := Nat.eq_of_beq_eq_true q
        obtain ⟨x, y, r, rfl, ha8⟩ := oII_inv ha
        obtain ⟨g2, ha9⟩ := nz_inv ha8
        obtain ⟨g30, ha1⟩ := ifB_inv ha9
        have g3 := Nat.le_of_ble_eq_true g30
        refine Ex.pure (fun p e R s m args below meth c H locs cells slots Z ls hCx hL hf hl hce hsl hS hva hlen k => ?_) (hN _ _ _ _ _ ha1)
        have hml : c.maxLocals = ls.size := by rw [hCx.ml, hL.1, hlen]
        exact va_mmax hCx.x hCx.b hml hCx.own (hCx.t hM rfl) (hCx.t maxStatic rfl) (hCx.t mathInit rfl) (hCx.t maxCode rfl) (by rw [hf]; omega) (by rw [rv_cats, hl]; omega) hce hsl hd k
      · obtain rfl := Nat.eq_of_beq_eq_true q
        obtain ⟨x, y, r, rfl, ha8⟩ := oII_inv ha
        obtain ⟨g2, ha9⟩ := nz_inv ha8
        obtain ⟨g30, ha1⟩ := ifB_inv ha9
        have g3 := Nat.le_of_ble_eq_true g30
        refine Ex.pure (fun p e R s m args below meth c H locs cells slots Z ls hCx hL hf hl hce hsl hS hva hlen k => ?_) (hN _ _ _ _ _ ha1)
        have hml : c.maxLocals = ls.size := by rw [hCx.ml, hL.1, hlen]
        exact va_mmin hCx.x hCx.b hml hCx.own (hCx.t hM rfl) (hCx.t minStatic rfl) (hCx.t mathInit rfl) (hCx.t minCode rfl) (by rw [hf]; omega) (by rw [rv_cats, hl]; omega) hce hsl hd k
    · exact ha.elim
  case invokespecial idx =>
    obtain rfl : n = 3 := hlen0.symm
    replace ha : aCall l w X d lm (fun st => N ll st h bc bs) (fun st h => N ll st h bc bs) (fun v r h c s => E ll (v.toList ++ r) h c s) idx st h bc bs := ha
    unfold aCall at ha
    split at ha
    · rename_i kd tag np M e
      have hM := hX.2.1.2.1 _ (lk_mem e)
      replace hin : (match lk X.2.2.2.1 idx with
        | some (kd, _) => Nat.beq kd 2 || Nat.beq kd 3 || Nat.beq kd 5
        | none => true) = true := hin
      rw [e] at hin
      dsimp only at hin
      rw [Bool.or_eq_true, Bool.or_eq_true] at hin
      rcases hin with (q | q) | q
      · obtain rfl := Nat.eq_of_beq_eq_true q
        obtain ⟨as, r1, g1, g2, ha1⟩ := popK_inv ha
        rw [List.append_nil] at ha1
        obtain ⟨a, r, rfl, ha4⟩ := oR_inv ha1
        exact so_recv (fun g3 ha5 => by
          obtain ⟨g4, ha2⟩ := ifB_inv ha5
          cases d with
          | zero => exact ha2.elim
          | succ d => exact so_callI hX hd hM g1 g3 (Nat.le_of_ble_eq_true g4) g2 ha2 (fun v h' c s q => hE _ _ _ _ _ q)) (Or.inl (plM2 hM)) ha4
      · obtain rfl := Nat.eq_of_beq_eq_true q
        obtain ⟨as, r1, g1, g2, ha1⟩ := popK_inv ha
        rw [List.append_nil] at ha1
        obtain ⟨a, r, rfl, ha4⟩ := oR_inv ha1
        exact so_recv (fun g3 ha5 => by
          obtain ⟨g4, ha2⟩ := ifB_inv ha5
          cases d with
          | zero => exact ha2.elim
          | succ d => exact so_callN hX hd hM g1 g3 (Nat.le_of_ble_eq_true g4) g2 ha2 (fun v h' c s q => hE _ _ _ _ _ q)) (Or.inl (plM3 hM)) ha4
      · obtain rfl := Nat.eq_of_beq_eq_true q
        obtain ⟨a, r, rfl, ha8⟩ := oR_inv ha
        obtain ⟨g2, ha9⟩ := nz_inv ha8
        obtain ⟨g30, g1, ha1⟩ := ifB_inv ha9
        have g3 := Nat.le_of_ble_eq_true g30
        refine Ex.pure (fun p e R s m args below meth c H locs cells slots Z ls hCx hL hf hl hce hsl hS hva hlen k => ?_) (hN _ _ _ _ _ ha1)
        have hml : ls.size = c.maxLocals := by rw [hCx.ml, hL.1, hlen]
        rw [List.map_cons, show rv w (.inr (.inr a)) = rvr w a from rfl, rvr_pos w g1]
        exact W.objInit hCx.x hCx.b hCx.own (hCx.t hM rfl) (hCx.t objInst rfl) (hCx.t objCode rfl) rfl hml rfl hd (by rw [hf]; omega) (by show 2 * 0 + _ + 12 ≤ _; rw [rv_cats, hl]; omega) k
    · exact ha.elim
  case invokeinterface idx cnt =>
    obtain rfl : n = 5 := hlen0.symm
    replace ha : aCall l w X d lm (fun st => N ll st h bc bs) (fun st h => N ll st h bc bs) (fun v r h c s => E ll (v.toList ++ r) h c s) idx st h bc bs := ha
    unfold aCall at ha
    split at ha
    · rename_i kd tag np M e
      have hM := hX.2.1.2.1 _ (lk_mem e)
      replace hin : (match lk X.2.2.2.1 idx with
        | some (kd, _) => Nat.beq kd 4
        | none => true) = true := hin
      rw [e] at hin
      dsimp only at hin
      obtain rfl := Nat.eq_of_beq_eq_true hin
      obtain ⟨as, r1, g1, g2, ha1⟩ := popK_inv ha
      rw [List.append_nil] at ha1
      obtain ⟨a, r, rfl, ha4⟩ := oR_inv ha1
      exact so_recv (fun g3 ha5 => by
        obtain ⟨g4, ha2⟩ := ifB_inv ha5
        cases d with
        | zero => exact ha2.elim
        | succ d => exact so_callF hX hd hM g1 g3 (Nat.le_of_ble_eq_true g4) g2 ha2 (fun v h' c s q => hE _ _ _ _ _ q)) (Or.inl ⟨0, _, plM4 hM, rfl⟩) ha4
    · exact ha.elim
  all_goals exact ha.elim
theorem sfx_mem : ∀ {L : List CE} {k : Nat}, ∀ e ∈ sfx L k, e ∈ L
  | [], _, _, h => h
  | a :: r, k, e, h => by
    unfold sfx at h
    split at h
    · exact h
    · exact List.mem_cons_of_mem _ (sfx_mem e h)
theorem sfx_head : ∀ {L : List CE} {k : Nat} {e : CE} {r : List CE}, sfx L k = e :: r → e.1 = k
  | [], _, _, _, h => by cases h
  | a :: r, k, e, r', h => by
    unfold sfx at h
    split at h
    · rename_i q
      cases h
      exact Nat.eq_of_beq_eq_true q
    · exact sfx_head h
theorem awp_ok (hX : mdOK X) : ∀ (k : Nat) (cs : List CE) (ll : List (Option AV)) (st : List AV) (h : AH) (bc bs : Nat), (∀ e ∈ cs, e ∈ X.2.1) → awp l w lm X d Q k cs ll st h bc bs → ∃ e r, cs = e :: r ∧ Ex l w lm X d Q e.1 ll st h bc bs
  | k, [], ll, st, h, bc, bs, hm, ha => by unfold awp at ha; exact ha.elim
  | 0, e :: r, ll, st, h, bc, bs, hm, ha => ⟨e, r, rfl, by unfold awp at ha; exact ha⟩
  | k + 1, (pc, i, n, nx, tg, cv, cl, cut) :: cs, ll, st, h, bc, bs, hm, ha => by
    refine ⟨_, _, rfl, ?_⟩
    have he := hm _ List.mem_cons_self
    unfold awp at ha
    have hN : ∀ (ll : List (Option AV)) (st : List AV) (h : AH) (bc bs : Nat), (match (generalizing := false) cs with
        | [] => False
        | e :: cs' => match Nat.beq e.1 nx, e.2.2.2.2.2.2.2 with
          | true, false => awp l w lm X d Q k (e :: cs') ll st h bc bs
          | _, _ => Ex l w lm X d Q nx ll st h bc bs) → Ex l w lm X d Q nx ll st h bc bs := by
      intro ll st h bc bs hh
      cases hcs : cs with
      | nil => rw [hcs] at hh; exact hh.elim
      | cons e cs' =>
        rw [hcs] at hh
        dsimp only at hh
        cases q1 : Nat.beq e.1 nx with
        | false => rw [q1] at hh; exact hh
        | true =>
          cases q2 : e.2.2.2.2.2.2.2 with
          | true => rw [q1, q2] at hh; exact hh
          | false =>
            rw [q1, q2] at hh
            dsimp only at hh
            obtain ⟨e2, r2, q3, q4⟩ := awp_ok hX k (e :: cs') ll st h bc bs (fun z hz => hm z (List.mem_cons_of_mem _ (by rw [hcs]; exact hz))) hh
            cases q3
            rw [Nat.eq_of_beq_eq_true q1] at q4
            exact q4
    by_cases hg : ∃ o, i = .goto o
    · obtain ⟨o, rfl⟩ := hg
      dsimp only at ha
      refine aop_ok (N := fun _ _ _ _ _ => False) (J := fun ll st h bc bs => Ex l w lm X d Q tg ll st h bc bs) (G := fun _ _ _ _ _ _ => False) (E := fun _ _ _ _ _ => False) hX he (fun _ _ _ _ _ q => q.elim) (fun _ _ _ _ _ q => q) (fun _ _ _ _ _ _ q => q.elim) (fun _ _ _ _ _ q => q.elim) ?_
      show Ex l w lm X d Q tg ll st h bc bs
      cases q0 : sfx X.2.1 tg with
      | nil => rw [q0] at ha; exact ha.elim
      | cons e cs' =>
        rw [q0] at ha
        dsimp only at ha
        cases q2 : e.2.2.2.2.2.2.2 with
        | true => rw [q2] at ha; exact ha
        | false =>
          rw [q2] at ha
          obtain ⟨e2, r2, q3, q4⟩ := awp_ok hX k (e :: cs') ll st h bc bs (fun z hz => sfx_mem z (by rw [q0]; exact hz)) ha
          cases q3
          rw [sfx_head q0] at q4
          exact q4
    · refine aop_ok hX he hN (fun _ _ _ _ _ q => q) (fun _ _ _ _ _ _ q => q) (fun _ _ _ _ _ q => q) (cv := cv) (cl := cl) (J := fun ll st h bc bs => Ex l w lm X d Q tg ll st h bc bs) (G := fun t ll st h bc bs => Ex l w lm X d Q t ll st h bc bs) (E := fun ll st h bc bs => Ex l w lm X d Q nx ll st h bc bs) ?_
      split at ha
      · exact absurd ⟨_, rfl⟩ hg
      · exact ha
/-- on from here, up to the next choice -/
theorem go (hX : mdOK X) {pc : Nat} (ha : awp l w lm X d Q 400 (sfx X.2.1 pc) ll st h bc bs) : Ex l w lm X d Q pc ll st h bc bs := by
  obtain ⟨e, r, q1, q2⟩ := awp_ok hX 400 (sfx X.2.1 pc) ll st h bc bs (fun z hz => sfx_mem z hz) ha
  rw [← sfx_head q1]
  exact q2
def locs0 : List AV → List (Option AV)
  | [] => []
  | .inr (.inl x) :: r => some (.inr (.inl x)) :: none :: locs0 r
  | v :: r => some v :: locs0 r
theorem Con.of (hX : mdOK X) {as : List AV} {nones : List (Option AV)} (hlen : (locs0 as ++ nones).length = X.1.2.2.1) (hno : ∀ z ∈ nones, z = none) (hex : Ex l w lm X d Q 0 (locs0 as ++ nones) [] h bc bs) : Con l w lm d X.1 as h bc bs Q := by
  refine Met.ofW (cc := X.1.2.1) (maxL := X.1.2.2.1) (ret := X.1.2.2.2) hX.2.2.2 rfl ?_
  intro p e s m args below meth c s₁ B hml hv
  obtain ⟨rfl, hWK, hS⟩ := hv
  have hts := atoms_spec (ws := wsD X.1) B.pre
  have hCx : Cx w X p s m (as.map (rv w)).toArray meth c := ⟨B.exec, B.bytes, hml, findClass_of_methodNamed B.named, fun q hq => hts q (List.mem_cons_of_mem _ hq), B.returns, B.notSynchronized, (name_of_methodNamed B.named B.method).1, hWK⟩
  rw [lg_entry_eq]
  have hl : ∀ vs : List AV, (lg_sl (vs.map (rv w))).length = (locs0 vs).length := by
    intro vs
    induction vs with
    | nil => rfl
    | cons v r ih =>
      rcases v with x | x | x
      · show (lg_sl (rv w (.inl x) :: r.map (rv w))).length = _
        simp only [lg_sl, List.flatMap_cons, List.length_append] at ih ⊢
        rw [ih]
        show 1 + _ = _
        simp [locs0]
        omega
      · simp only [lg_sl, List.map_cons, List.flatMap_cons, List.length_append] at ih ⊢
        rw [ih]
        show 2 + _ = _
        simp [locs0]
        omega
      · simp only [lg_sl, List.map_cons, List.flatMap_cons, List.length_append] at ih ⊢
        rw [ih, show (rv w (.inr (.inr x))).category = 1 from rv_cat w _]
        show 1 + _ = _
        simp [locs0]
        omega
  have hlen2 : (lg_sl (as.map (rv w))).length ≤ X.1.2.2.1 := by rw [hl, ← hlen, List.length_append]; omega
  have hent := lv_entry (as.map (rv w)) hlen2
  have hargs : ∀ (vs : List AV) (k i : Nat) (v : AV), (locs0 vs)[i]? = some (some v) → (k + i, rv w v) ∈ lv_args k (vs.map (rv w)) := by
    intro vs
    induction vs with
    | nil => intro k i v q; simp [locs0] at q
    | cons u r ih =>
      intro k i v q
      rcases u with x | x | x
      · cases i with
        | zero => simp [locs0] at q; subst q; exact List.mem_cons_self
        | succ i =>
          have q' : (locs0 r)[i]? = some (some v) := by simpa [locs0] using q
          have := ih (k + 1) i v q'
          refine List.mem_cons_of_mem _ ?_
          rw [show k + (i + 1) = k + 1 + i by omega]
          exact this
      · match i, q with
        | 0, q => simp [locs0] at q; subst q; exact List.mem_cons_self
        | 1, q => simp [locs0] at q
        | i + 2, q =>
          have q' : (locs0 r)[i]? = some (some v) := by simpa [locs0] using q
          have := ih (k + 2) i v q'
          refine List.mem_cons_of_mem _ ?_
          rw [show k + (i + 2) = k + 2 + i by omega]
          exact this
      · cases i with
        | zero => simp [locs0] at q; subst q; exact List.mem_cons_self
        | succ i =>
          have q' : (locs0 r)[i]? = some (some v) := by simpa [locs0] using q
          have := ih (k + 1) i v q'
          refine List.mem_cons_of_mem _ ?_
          rw [show (rv w (.inr (.inr x))).category = 1 from rv_cat w _, if_neg (by decide), show k + (i + 1) = k + 1 + i by omega]
          exact this
  refine hex p e (rmD d bc bs) s m _ below meth c s.heap [] 0 0 _ hCx rfl rfl (by show 0 + bc ≤ bc; omega) (by show 0 + bs ≤ bs; omega) hS ⟨by rw [hent.1, hlen], hent.2.1, fun i v q => ?_⟩ hlen va_S.rf
  have q2 : (locs0 as)[i]? = some (some v) := by
    by_cases hi : i < (locs0 as).length
    · rw [List.getElem?_append_left hi] at q; exact q
    · rw [List.getElem?_append_right (by omega)] at q
      have := hno _ (List.mem_of_getElem? q)
      cases this
  have := hent.2.2 _ (hargs as 0 i v q2)
  simpa using this
/-- a call that makes nothing -/
theorem Cal.z {M : MH} {as : List AV} {K : Option AV → AH → Nat → Nat → Prop} (hc : Con l w lm d M as h 0 0 (fun v h' => K v h' bc bs)) : Cal l w lm d M as h bc bs K := ⟨0, 0, bc, bs, by omega, by omega, hc⟩
end Rest
