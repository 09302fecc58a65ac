/-! THE CLAIM OUT OF ONE WALK OF THE LAW'S BODY. Your part is whole_start (and what it stands on); all else here is the same for every law, but numbers. -/
def R_law : String := "KeptPagesLaw"
def lw_P (b : Addr) (xs : List Int32) (args : Array Value) (s : State) : Prop := args = #[.ref b] ∧ s.IntsAt b xs ∧ xs.length ≤ 3072 ∧ (Jvm.Cond.and given_1 narrow_1).before args s = true
def lw_Q (_ : Array Value) (s : State) (o : Outcome) (t : State) : Prop := o = .returned (some (.int 1)) ∧ Framed s o t [] 600000 7302250
def lw_Z (below : List Frame) (a : Array Value) (s : State) : State → Prop := fun t => ∃ o, t.status = .running ∧ Ended t below o ∧ lw_Q a s o t
/-- the law's own end, with 1 on the stack, nothing written that was there before, its room as the claim has it -/
theorem lw_ret {p : Program} {l : Launch} {e : Env} {s : State} {m : MethodId} {below : List Frame} {meth : Method} {c : Code} {b : Nat} (hx : p.tables.exec = Jvm.exec) (hb : c.code = code) (hr : meth.sig.returnType = ret) (hlocks : meth.locks = false) {pc : Nat} {H : Heap} {ls : Array Slot} (hdg : decode code pc = .ok (.ireturn, 1)) : W p l e room_1 s m #[Value.ref b] below meth c H [] 600000 7302250 (lw_Z below #[Value.ref b] s) (F0 m pc ls [.int 1]) := by
  intro T hT X
  obtain ⟨fs, hret, hrun, hended, hW, hframe⟩ := X.leave (v := some (.int 1)) (hlocks := hlocks) (fun h => by rw [hr] at h; cases h)
  have hmeth' : T.vm.method? m = some meth := X.method'
  refine ⟨T.setFrames fs, ?_, .returned (some (.int 1)), hrun, hended, rfl, ⟨_, rfl⟩, hW, hframe⟩
  jvm_step X.here [X.here.top, hx, hb, hdg, hmeth', hr, ret, narrow_b1]
  (try refine ⟨rfl, ?_⟩); (try refine ⟨rfl, ?_⟩)
  first | (intro acts; rw [hret _ acts rfl rfl rfl]) | rw [hret _ _ rfl rfl rfl]
  exact Steps.refl _
/-- what holds at the law's entry: the machine, the code, the tables' words (any of lw_tbl by 'hts w (by decide +kernel)'), the script of L ints xs at the cell b, what the Statement gives of the start (any of its parts by flat_of_before) -/
def lw_At (p : Program) (s : State) (m : MethodId) (meth : Method) (c : Code) (b L : Nat) (xs : Nat → Int32) : Prop :=
  p.tables.exec = Jvm.exec ∧ c.code = code ∧ meth.sig.returnType = ret ∧ c.maxLocals = 4 ∧ s.vm.findClass R_law = some m.cls ∧ (∀ w ∈ lw_tbl, w.before #[Value.ref b] s = true) ∧ va_X b L xs s s.heap ∧ b < s.heap.size ∧ meth.locks = false ∧ (Jvm.Cond.and given_1 narrow_1).before #[Value.ref b] s = true ∧ meth.name = "law"

/-! ===== what holds at the law's entry ===== -/
def tmS (i : Nat) : Term := match sAt[i]? with
  | some q => .string q.1 q.2.1
  | none => .int 0
abbrev gvL : List Cond := flatC (Jvm.Cond.and given_1 narrow_1)
theorem gv_ex : ∀ i, i < 11 → Cond.exactly (tmS i) "java/lang/String" ∈ gvL := by decide +kernel
theorem gv_co : ∀ i, i < 11 → Cond.eq (.field (tmS i) "java/lang/String" "coder" "B") (.int 0) ∈ gvL := by decide +kernel
theorem gv_ar : ∀ i, i < 11 → Cond.arrayOf (.field (tmS i) "java/lang/String" "value" "[B") .byte ∈ gvL := by decide +kernel
theorem gv_le : ∀ i, i < 11 → Cond.eq (.length (.field (tmS i) "java/lang/String" "value" "[B")) (.int (Int32.ofNat (sLens.getD i 0))) ∈ gvL := by decide +kernel
theorem gv_el : ∀ i, i < 11 → ∀ j, j < sLens.getD i 0 → Cond.eq (.elem (.field (tmS i) "java/lang/String" "value" "[B") (.int (Int32.ofNat j))) (.int ((sBytes.getD i []).getD j 0)) ∈ gvL := by decide +kernel
theorem gv_ne : ∀ i, i < 11 → ∀ j, j < 11 → i ≠ j → Cond.not (Cond.eq (tmS i) (tmS j)) ∈ gvL ∨ Cond.not (Cond.eq (tmS j) (tmS i)) ∈ gvL := by decide +kernel
theorem gv_e1 : Cond.exactly (.static "java/util/ArrayList" "DEFAULTCAPACITY_EMPTY_ELEMENTDATA" "[Ljava/lang/Object;") "[Ljava/lang/Object;" ∈ gvL := by decide +kernel
theorem gv_e2 : Cond.eq (.length (.static "java/util/ArrayList" "DEFAULTCAPACITY_EMPTY_ELEMENTDATA" "[Ljava/lang/Object;")) (.int 0) ∈ gvL := by decide +kernel
theorem gv_e3 : Cond.eq (.static "java/lang/String" "COMPACT_STRINGS" "Z") (.int 1) ∈ gvL := by decide +kernel
theorem gv_e4 : Cond.isRef (.static "jdk/internal/util/Preconditions" "SIOOBE_FORMATTER" "Ljava/util/function/BiFunction;") ∈ gvL := by decide +kernel
theorem gv_e5 : Cond.isRef (.mirror "[Ljava/lang/Object;") ∈ gvL := by decide +kernel
theorem tb_in : ∀ k, k < 11 → ∀ q, vwCl[k]? = some q → Cond.instantiable q.1 q.2.2 ∈ lw_tbl := by
  intro k hk q hq
  match k, hq with
  | 0, hq => cases hq; decide +kernel
  | 1, hq => cases hq; decide +kernel
  | 2, hq => cases hq; decide +kernel
  | 3, hq => cases hq; decide +kernel
  | 4, hq => cases hq; decide +kernel
  | 5, hq => cases hq; decide +kernel
  | 6, hq => cases hq; decide +kernel
  | 7, hq => cases hq; decide +kernel
  | 8, hq => cases hq; decide +kernel
  | 9, hq => cases hq; decide +kernel
  | 10, hq => cases hq; decide +kernel
  | k + 11, hq => omega
theorem tb_I : Cond.arrayClass .int ∈ lw_tbl := by decide +kernel
theorem tb_J : Cond.arrayClass .long ∈ lw_tbl := by decide +kernel
theorem tb_Z : Cond.arrayClass .boolean ∈ lw_tbl := by decide +kernel
theorem tb_O : Cond.arrayOver (.object "java/lang/Object") ∈ lw_tbl := by decide +kernel
theorem tb_l1 : Cond.laysStatic "java/util/ArrayList" "DEFAULTCAPACITY_EMPTY_ELEMENTDATA" "[Ljava/lang/Object;" ∈ lw_tbl := by decide +kernel
theorem tb_l2 : Cond.laysStatic "java/lang/String" "COMPACT_STRINGS" "Z" ∈ lw_tbl := by decide +kernel
theorem tb_l3 : Cond.laysStatic "jdk/internal/util/Preconditions" "SIOOBE_FORMATTER" "Ljava/util/function/BiFunction;" ∈ lw_tbl := by decide +kernel
theorem tb_n1 : Cond.initialized "java/util/ArrayList" ∈ lw_tbl := by decide +kernel
theorem tb_n2 : Cond.initialized "java/lang/String" ∈ lw_tbl := by decide +kernel
theorem tb_n3 : Cond.initialized "jdk/internal/util/Preconditions" ∈ lw_tbl := by decide +kernel
theorem tb_dc : Cond.declares ⟨"java/lang/Object", "getClass", "()Ljava/lang/Class;"⟩ ∈ lw_tbl := by decide +kernel
theorem tb_sr : ∀ i, i < 11 → ∀ q, sAt[i]? = some q → Cond.stringRef q.1 q.2.1 q.2.2 ∈ lw_tbl := by
  intro i hi q hq
  match i, hq with
  | 0, hq => cases hq; decide +kernel
  | 1, hq => cases hq; decide +kernel
  | 2, hq => cases hq; decide +kernel
  | 3, hq => cases hq; decide +kernel
  | 4, hq => cases hq; decide +kernel
  | 5, hq => cases hq; decide +kernel
  | 6, hq => cases hq; decide +kernel
  | 7, hq => cases hq; decide +kernel
  | 8, hq => cases hq; decide +kernel
  | 9, hq => cases hq; decide +kernel
  | 10, hq => cases hq; decide +kernel
  | i + 11, hq => omega
theorem tb_fw : ∀ y ∈ fwN, Cond.declares ⟨"java/util/List", y.name, y.desc⟩ ∈ lw_tbl ∧ Cond.interfaceMethod "java/util/List" "java/util/List" y.name y.desc ∈ lw_tbl ∧ Cond.publicMethod y ∈ lw_tbl ∧ Cond.unhidden "java/util/ArrayList" y.name y.desc ∈ lw_tbl ∧ Cond.castable "java/util/ArrayList" "java/util/List" ∈ lw_tbl := by decide +kernel
/-- what was there before, at the start -/
def hS0 (xs : List Int32) : AH := (fun n => if n = 26 then 106 else if n = 1 then 104 else if 2 ≤ n ∧ n < 13 then 12 else if 13 ≤ n ∧ n < 24 then 105 else 0, fun _ _ => 0, fun _ _ => 0, fun f n => if f = 704 then n + 11 else 0, fun n => if n = 26 then xs else sBytes.getD (n - 13) [], fun _ => [], fun _ => [], 32)
theorem hS0_sth (xs : List Int32) : STH (hS0 xs) := by
  refine ⟨rfl, rfl, fun i hi => ⟨?_, ?_, rfl, ?_, ?_⟩⟩
  · show (if 2 + i = 26 then 106 else if 2 + i = 1 then 104 else if 2 ≤ 2 + i ∧ 2 + i < 13 then 12 else _) = 12
    rw [if_neg (by omega), if_neg (by omega), if_pos (by omega)]
  · show (if 704 = 704 then 2 + i + 11 else 0) = 13 + i
    rw [if_pos rfl]; omega
  · show (if 13 + i = 26 then 106 else if 13 + i = 1 then 104 else if 2 ≤ 13 + i ∧ 13 + i < 13 then 12 else if 13 ≤ 13 + i ∧ 13 + i < 24 then 105 else 0) = 105
    rw [if_neg (by omega), if_neg (by omega), if_neg (by omega), if_pos (by omega)]
  · show (if 13 + i = 26 then xs else sBytes.getD (13 + i - 13) []) = sBytes.getD i []
    rw [if_neg (by omega), show 13 + i - 13 = i by omega]
theorem hS0_sim {w : WD} {H : Heap} (hB : wB w = H.size) : Sim w false (hS0 (wS w)) H := by
  refine ⟨by rw [hB]; rfl, Nat.le_refl _, fun n hn => ?_, fun z => by cases z⟩
  replace hn : (if n = 26 then 106 else if n = 1 then 104 else if 2 ≤ n ∧ n < 13 then 12 else if 13 ≤ n ∧ n < 24 then 105 else 0) ≠ 0 := hn
  by_cases c1 : n = 26
  · subst c1
    exact Or.inr ⟨by decide, Or.inl ⟨rfl, rfl, rfl⟩⟩
  · by_cases c2 : n = 1
    · subst c2
      exact Or.inr ⟨by decide, Or.inr (Or.inl ⟨rfl, rfl, rfl⟩)⟩
    · rw [if_neg c1, if_neg c2] at hn
      by_cases c3 : 2 ≤ n ∧ n < 13
      · refine Or.inr ⟨by omega, Or.inr (Or.inr (Or.inl ⟨c3.1, c3.2, ?_, ?_, rfl⟩))⟩
        · show (if n = 26 then 106 else if n = 1 then 104 else if 2 ≤ n ∧ n < 13 then 12 else _) = 12
          rw [if_neg c1, if_neg c2, if_pos c3]
        · show (if 704 = 704 then n + 11 else 0) = n + 11
          rw [if_pos rfl]
      · rw [if_neg c3] at hn
        by_cases c4 : 13 ≤ n ∧ n < 24
        · refine Or.inr ⟨by omega, Or.inr (Or.inr (Or.inr ⟨c4.1, c4.2, ?_, ?_⟩))⟩
          · show (if n = 26 then 106 else if n = 1 then 104 else if 2 ≤ n ∧ n < 13 then 12 else if 13 ≤ n ∧ n < 24 then 105 else 0) = 105
            rw [if_neg c1, if_neg c2, if_neg c3, if_pos c4]
          · show (if n = 26 then wS w else sBytes.getD (n - 13) []) = _
            rw [if_neg c1]
        · rw [if_neg c4] at hn
          exact absurd rfl hn
def wX0 (b t1 mi t3 : Nat) (adK adV : Nat → Nat) (n : Nat) : Nat := if n = 1 then t1 else if n = 24 then mi else if n = 25 then t3 else if 2 ≤ n ∧ n < 13 then adK (n - 2) else if 13 ≤ n ∧ n < 24 then adV (n - 13) else b
theorem wX0_K {b t1 mi t3 : Nat} {adK adV : Nat → Nat} {i : Nat} (hi : i < 11) : wX0 b t1 mi t3 adK adV (2 + i) = adK i := by
  unfold wX0
  rw [if_neg (by omega), if_neg (by omega), if_neg (by omega), if_pos (by omega), show 2 + i - 2 = i by omega]
theorem wX0_V {b t1 mi t3 : Nat} {adK adV : Nat → Nat} {i : Nat} (hi : i < 11) : wX0 b t1 mi t3 adK adV (13 + i) = adV i := by
  unfold wX0
  rw [if_neg (by omega), if_neg (by omega), if_neg (by omega), if_neg (by omega), if_pos (by omega), show 13 + i - 13 = i by omega]
/-- the world at the law's entry -/
theorem wk_start {args : Array Value} {s : State} {b L : Nat} {xs : Nat → Int32} (hL : L ≤ 3072) (hts : ∀ q ∈ lw_tbl, q.before args s = true) (hX : va_X b L xs s s.heap) (hbl : b < s.heap.size) (hgv : (Jvm.Cond.and given_1 narrow_1).before args s = true) : ∃ w : WD, WK w s ∧ wB w = s.heap.size ∧ wX w 26 = b ∧ wS w = (List.range L).map xs := by
  have hs := flat_of_before _ hgv
  have hA : ∀ a : Nat, a < s.heap.size → ¬ (fun q : Nat => s.heap.size ≤ q) a := fun a ha z => Nat.not_le.mpr ha z
  have h0 : ∀ k : Nat, ∃ q : ClassId × (Nat → Nat), ∀ r : vw_C, vwCl[k]? = some r → u_Kn s r.1 r.2.1 r.2.2 q.1 q.2 := by
    intro k
    cases hr : vwCl[k]? with
    | none => exact ⟨(0, fun _ => 0), fun r h => by cases h⟩
    | some r =>
      have hk : k < 11 := (List.getElem?_eq_some_iff.mp hr).1
      obtain ⟨cC, iS, h⟩ := u_known (C := r.1) (T := r.2.1) (N := r.2.2) (n := r.2.2) hts (la_all hr) (hts _ (tb_in k hk r hr))
      exact ⟨(cC, iS), fun r' h' => by cases h'; exact h⟩
  obtain ⟨f, hf⟩ := Classical.axiomOfChoice h0
  obtain ⟨cI, kI, mI, i1, i2, i3⟩ := Cond.arrayClass_spec (args := args) (first := s) (o := none) (s := s) (idx := []) (hts _ tb_I)
  obtain ⟨cJ, kJ, mJ, j1, j2, j3⟩ := Cond.arrayClass_spec (args := args) (first := s) (o := none) (s := s) (idx := []) (hts _ tb_J)
  obtain ⟨cZ, kZ, mZ, z1, z2, z3⟩ := Cond.arrayClass_spec (args := args) (first := s) (o := none) (s := s) (idx := []) (hts _ tb_Z)
  obtain ⟨mO, cO, kO, o1, -, o2, o3, o4⟩ := Cond.arrayOver_spec (args := args) (first := s) (o := none) (s := s) (idx := []) (hts _ tb_O)
  obtain ⟨adK, adV, hV, hVe⟩ := vk_Sof (args := args) (s := s) (N := 11) (tm := tmS) (len := sLens) (byt := sBytes) (A := fun q : Nat => s.heap.size ≤ q) (by decide) (fun i hi => hs _ (gv_ex i hi)) (fun i hi => hs _ (gv_co i hi)) (fun i hi => hs _ (gv_ar i hi)) (fun i hi => hs _ (gv_le i hi)) (fun i hi j hj => hs _ (gv_el i hi j hj)) (fun i j hi hj hne => (gv_ne i hi j hj hne).imp (hs _) (hs _)) hA
  obtain ⟨t1, c1, cell1, k1, d1, d2, d3, d4, d5, d6, -⟩ := Cond.exactly_spec (args := args) (first := s) (o := none) (s := s) (idx := []) (hs _ gv_e1)
  have dz : cell1.slots.size.toInt32 = 0 := by
    obtain ⟨t, cell, ht, hat, hv⟩ := Term.length_spec (va_eqt (hs _ gv_e2))
    obtain ⟨hcell, -, -, -⟩ := State.arrayAt?_spec hat
    cases d1.symm.trans ht
    cases d3.symm.trans hcell
    exact (Value.int.inj hv).symm
  have ec : c1 = cO := by
    have : some c1 = some cO := d2.symm.trans o4
    exact Option.some.inj this
  have h7 : ∃ r t3 : Nat, (r = 0 ∨ r = 25) ∧ va_Z "jdk/internal/util/Preconditions" "SIOOBE_FORMATTER" "Ljava/util/function/BiFunction;" (va_rf (if r = 0 then none else some t3)) (fun q : Nat => s.heap.size ≤ q) s s.heap := by
    rcases va_Zqof (hts _ tb_l3) (hts _ tb_n3) (hs _ gv_e4) hA with z | ⟨t, z⟩
    · exact ⟨0, 0, Or.inl rfl, z⟩
    · exact ⟨25, t, Or.inr rfl, z⟩
  obtain ⟨r, t3, hr, h7⟩ := h7
  obtain ⟨mi, hMi⟩ := va_Mi.of (hs _ gv_e5)
  refine ⟨(fun k => (f k).1, fun k => (f k).2, fun k => if k = 0 then cI else if k = 1 then cJ else if k = 2 then cZ else cO, wX0 b t1 mi t3 adK adV, s.heap.size, (List.range L).map xs), ⟨⟨fun k q hq => hf k q hq, fun k q hq => ?_⟩, ⟨fun i hi => ?_, fun i j hi hj e => ?_⟩, fun i q hq => ?_, ?_, ⟨⟨cell1, d3, by rw [d6, ec]; rfl, d5, (fun k e => by rw [e] at d5; cases d5), dz⟩, (Array.getElem?_eq_some_iff.mp d3).1⟩, va_Zof (hts _ tb_l2) (hts _ tb_n2) (va_eqi (hs _ gv_e3)) hA, ⟨r, ?_, by omega⟩, hMi, va_Dc.of (hts _ tb_dc), va_AO.of (hts _ tb_O), fun q hq hb => va_Nw.of ?_ (hts q hq), fun y hy => ?_, fun n hn => ?_, Nat.le_refl _, ?_⟩, rfl, rfl, rfl⟩
  · match k, hq with
    | 0, hq => cases hq; exact ⟨fun n z => ⟨(fun k h => by cases h), kI, i2, mI, i3⟩, i1⟩
    | 1, hq => cases hq; exact ⟨fun n z => ⟨(fun k h => by cases h), kJ, j2, mJ, j3⟩, j1⟩
    | 2, hq => cases hq; exact ⟨fun n z => ⟨(fun k h => by cases h), kZ, z2, mZ, z3⟩, z1⟩
    | 3, hq => cases hq; exact ⟨fun n z => ⟨(fun k h => by cases h), kO, o2, mO, o3⟩, kO, mO, o2, o3, o1, o4⟩
    | k + 4, hq => simp [tysW] at hq
  · show va_O _ (wX0 b t1 mi t3 adK adV (2 + i)) _ _ _ ∧ va_OF _ _ _ _ (wX0 b t1 mi t3 adK adV (2 + i)) _ _ _ ∧ va_OF _ _ _ (.ref (wX0 b t1 mi t3 adK adV (13 + i))) (wX0 b t1 mi t3 adK adV (2 + i)) _ _ _ ∧ va_T _ (wX0 b t1 mi t3 adK adV (13 + i)) _ _ _ _ _
    rw [wX0_K hi, wX0_V hi]
    exact hV.1 i hi
  · replace e : wX0 b t1 mi t3 adK adV (2 + i) = wX0 b t1 mi t3 adK adV (2 + j) := e
    rw [wX0_K hi, wX0_K hj] at e
    exact hV.2 i j hi hj e
  · have hi : i < 11 := (List.getElem?_eq_some_iff.mp hq).1
    show vk_R _ _ _ (wX0 b t1 mi t3 adK adV (2 + i)) s
    rw [wX0_K hi]
    refine vk_R.of (hts _ (tb_sr i hi q hq)) ?_
    have := hVe i hi
    unfold tmS at this
    rw [hq] at this
    exact this
  · exact va_Zof (hts _ tb_l1) (hts _ tb_n1) d1 hA
  · show va_Z _ _ _ (va_rf (rvo _ r)) _ _ _
    rcases hr with z | z
    · subst z; exact h7
    · subst z; exact h7
  · cases q with
    | methodLinkNest a b c d => rfl
    | castable a b => rfl
    | declares a => rfl
    | _ => exact absurd hb (by simp [bw])
  · obtain ⟨y1, y2, y3, y4, y5⟩ := tb_fw y hy
    exact va_Fw.of (hts _ y1) (hts _ y2) (hts _ y3) (hts _ y4) (hts _ y5)
  · show wX0 b t1 mi t3 adK adV n < s.heap.size
    unfold wX0
    by_cases c1 : n = 1
    · rw [if_pos c1]; exact (Array.getElem?_eq_some_iff.mp d3).1
    · rw [if_neg c1, if_neg (by omega), if_neg (by omega)]
      by_cases c2 : 2 ≤ n ∧ n < 13
      · rw [if_pos c2]
        obtain ⟨cell, g1, -⟩ := (hV.1 (n - 2) (by omega)).1
        exact (Array.getElem?_eq_some_iff.mp g1).1
      · rw [if_neg c2]
        by_cases c3 : 13 ≤ n ∧ n < 24
        · rw [if_pos c3]
          obtain ⟨cell, g1, -⟩ := (hV.1 (n - 13) (by omega)).2.2.2
          exact (Array.getElem?_eq_some_iff.mp g1).1
        · rw [if_neg c3]; exact hbl
  · show ((List.range L).map xs).length < 2 ^ 31 ∧ va_X b ((List.range L).map xs).length (fun j => ((List.range L).map xs).getD j 0) s s.heap
    rw [List.length_map, List.length_range]
    refine ⟨by omega, ?_⟩
    obtain ⟨scr, g1, g2, g3, g4, g5⟩ := hX
    refine ⟨scr, g1, g2, g3, g4, fun j hj => ?_⟩
    show _ = some (Value.int (((List.range L).map xs).getD j 0))
    rw [g5 j hj, List.getD_eq_getElem?_getD, List.getElem?_map, List.getElem?_range hj]
    rfl
def rmL : Room := { frames := 29, cells := 4152, slots := 206458, locals := 1856 }
theorem rmL_ok {s : State} {pl : Platform} (h : s.hasRoom pl room_1 = true) : s.hasRoom pl rmL = true := by
  have a1 : room_1.locals = 84000 := rfl
  have a2 : room_1.frames = 2048 := rfl
  have a3 : room_1.cells = 600000 := rfl
  have a4 : room_1.slots = 7302250 := rfl
  have b1 : rmL.locals = 1856 := rfl
  have b2 : rmL.frames = 29 := rfl
  have b3 : rmL.cells = 4152 := rfl
  have b4 : rmL.slots = 206458 := rfl
  simp only [State.hasRoom, Bool.and_eq_true, decide_eq_true_eq] at h ⊢
  obtain ⟨⟨⟨⟨h5, h1, h1', h4, h4', hb⟩, h2⟩, h3⟩, h0⟩ := h
  exact ⟨⟨⟨⟨by omega, by omega, by omega, by omega, by omega, hb⟩, by omega⟩, by omega⟩, h0⟩
theorem forget_all {s t : State} {Lc : List Loc} {k n k2 n2 : Nat} (h : s.sameButNew t Lc k n) (hk : k ≤ k2) (hn : n ≤ n2) (hf : ∀ q ∈ Lc, s.heap.size ≤ q.base) : s.sameButNew t [] k2 n2 := by
  obtain ⟨s1, s2, s3, s4, s5, s6⟩ := h
  refine ⟨s1, s2, by omega, s4, by omega, fun a c hc => ?_⟩
  obtain ⟨c', g1, g2, g3, g4⟩ := s6 a c hc
  refine ⟨c', g1, g2, g3, fun i _ => g4 i (fun hm => ?_)⟩
  have := hf _ hm
  have h2 : a < s.heap.size := (Array.getElem?_eq_some_iff.mp hc).1
  exact absurd this (Nat.not_le.mpr h2)
set_option maxHeartbeats 4000000 in
set_option maxRecDepth 100000 in
theorem whole_start {p : Program} {e : Env} {s : State} {m : MethodId} {below : List Frame} {meth : Method} {c : Code} (l : Launch) {b L : Nat} {xs : Nat → Int32} (hL : L ≤ 3072) (C0 : lw_At p s m meth c b L xs) : W p l e room_1 s m #[Value.ref b] below meth c s.heap [] 0 0 (lw_Z below #[Value.ref b] s) (entryFrame m ([Value.ref b] : List Value).toArray 4) := by
  obtain ⟨hx, hb, hr, hml, hown, hts, hX, hbl, hlocks, hgv, hnm⟩ := C0
  obtain ⟨w, hWK, eB, e26, eS⟩ := wk_start hL hts hX hbl hgv
  have hl := lv_entry ([.ref b]) (n := 4) (Nat.le_of_ble_eq_true rfl)
  rw [lg_entry_eq]
  generalize (lg_sl ([.ref b]) ++ List.replicate (4 - (lg_sl ([.ref b])).length) Slot.unset).toArray = ls at hl ⊢
  have hl : lv_has ls 4 [(0, .ref b)] := hl
  have hEx : Ex l w false mL_law (0 + 29) (fun v _ => v = some (vi 1)) 0 [some (vr 26), none, none, none] [] (hS0 (wS w)) 4152 206458 := law_all rfl (hS0_sth _) (fun _ => rfl) (by rw [eS, List.length_map, List.length_range]; exact hL)
  have hCx : Cx w mL_law p s m #[Value.ref b] meth c := ⟨hx, hb, hml, hown, fun q hq => hts q (List.mem_filter.mp hq).1, hr, hlocks, hnm, hWK⟩
  have e1 : (rv w (vr 26) : Value) = .ref b := by
    show rvr w 26 = _
    rw [rvr_pos w (by omega), rho_ext w (by omega), e26]
  have hLOK : LOK w ls [some (vr 26), none, none, none] := by
    refine ⟨hl.1, hl.2.1, fun i v hv => ?_⟩
    match i, hv with
    | 0, hv => cases hv; rw [e1]; exact hl.2.2 _ (List.mem_cons_self ..)
    | 1, hv => cases hv
    | 2, hv => cases hv
    | 3, hv => cases hv
    | i + 4, hv => simp at hv
  have K := hEx p e rmL s m #[Value.ref b] below meth c s.heap [] 0 0 ls hCx rfl rfl (Nat.le_refl _) (Nat.le_refl _) (hS0_sim eB) hLOK rfl va_S.rf
  intro T hT X
  obtain ⟨t, a1, o, a2, a3, ⟨v, h', g1, g2, g3⟩, Lc, hfe, hfr⟩ := K T hT { X with room := rmL_ok X.room }
  subst g2
  refine ⟨t, a1, o, a2, a3, g1, ⟨_, g1⟩, hfe.2.1, forget_all hfe.2.2 (by decide) (by decide) (fun q hq => ?_)⟩
  have := hfr q hq
  rw [← eB]
  exact this

