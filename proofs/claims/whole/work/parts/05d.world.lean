/-! ===== the world's knowledge moves with the machine ===== -/
theorem WK.moved {w : WD} {s U : State} (h : WK w s) (hW : s.WarmedH U.vm) (hsz : wB w ≤ U.heap.size) (hq : ∀ q : Nat, q < wB w → U.heap[q]? = s.heap[q]?) : WK w U := by
  obtain ⟨h1, h2, h3, h4, h5, h6, ⟨r, h7, h7r⟩, h8, h9, h10, h11, h12, h13, h14, h15, h16⟩ := h
  have hal := hW.alike
  have hk : ∀ a : Nat, a < s.heap.size → ¬ wO w a → U.heap[a]? = s.heap[a]? := fun a _ ha => hq a (Nat.lt_of_not_le ha)
  refine ⟨va_K.moved hal h1, (vk_S.moved hal h2).kept hk, fun i q hi => vk_R.warm hW (h3 i q hi), (va_Z.moved hal h4).kept hk, ⟨by obtain ⟨c5, z5⟩ := h5.1; exact ⟨c5, (hq _ h5.2).trans z5.1, z5.2⟩, h5.2⟩, (va_Z.moved hal h6).kept hk, ⟨r, (va_Z.moved hal h7).kept hk, h7r⟩, va_Mi.moved hal h8, va_Dc.moved hal h9, va_AO.moved hal h10, fun q hq1 hq2 => ?_, fun y hy => ?_, h13, hsz, h15, ?_⟩
  · have hZ := h11 q hq1 hq2
    cases q with
    | methodLinkNest a b c d => exact va_Nw.warmM hW hZ
    | castable a b => exact va_Nw.warmC hW hZ
    | declares a => exact va_Nw.warmD hW hZ
    | _ => exact absurd hq2 (by simp [bw])
  · exact va_Fw.moved ⟨show "java/util/List" ≠ "java/lang/invoke/MethodHandle" by decide, show "java/util/List" ≠ "java/lang/invoke/VarHandle" by decide⟩ hal (h12 y hy)
  · obtain ⟨scr, g1, g2, g3, g4, g5⟩ := h16
    exact ⟨scr, (hq _ (h13 26 (by decide))).trans g1, State.isArrayOf_alike hal g2, g3, g4, g5⟩
section Uses
variable {w : WD} {lm : Bool} {X : MD} {p : Program} {s : State} {m : MethodId} {args : Array Value} {meth : Method} {c : Code}
theorem Cx.x (h : Cx w X p s m args meth c) : p.tables.exec = Jvm.exec := h.1
theorem Cx.b (h : Cx w X p s m args meth c) : c.code = X.1.2.1 := h.2.1
theorem Cx.ml (h : Cx w X p s m args meth c) : c.maxLocals = X.1.2.2.1 := h.2.2.1
theorem Cx.own (h : Cx w X p s m args meth c) : s.vm.findClass X.1.1.cls = some m.cls := h.2.2.2.1
theorem Cx.t (h : Cx w X p s m args meth c) {q : Cond} (hq : q ∈ lw_tbl) (hg : goodWord q = true) : q.before args s = true := h.2.2.2.2.1 q (lw_in hq hg)
theorem Cx.ret (h : Cx w X p s m args meth c) : meth.sig.returnType = X.1.2.2.2 := h.2.2.2.2.2.1
theorem Cx.locks (h : Cx w X p s m args meth c) : meth.locks = false := h.2.2.2.2.2.2.1
theorem Cx.nm (h : Cx w X p s m args meth c) : meth.name = X.1.1.name := h.2.2.2.2.2.2.2.1
theorem Cx.k (h : Cx w X p s m args meth c) : WK w s := h.2.2.2.2.2.2.2.2
end Uses
theorem WK.tab {w : WD} {s : State} (h : WK w s) : va_K (w.1, w.2.1) vwCl (tysW w) s := h.1
theorem WK.ext {w : WD} {s : State} (h : WK w s) {n : Nat} (hn : n < 24 ∨ n = 26) : wX w n < wB w := h.2.2.2.2.2.2.2.2.2.2.2.2.1 n hn
theorem WK.base {w : WD} {s : State} (h : WK w s) : wB w ≤ s.heap.size := h.2.2.2.2.2.2.2.2.2.2.2.2.2.1
theorem WK.scr {w : WD} {s : State} (h : WK w s) : (wS w).length < 2 ^ 31 ∧ va_X (wX w 26) (wS w).length (fun j => (wS w).getD j 0) s s.heap := h.2.2.2.2.2.2.2.2.2.2.2.2.2.2
theorem lay_good {C : String} {T : u_T} {N : Nat} (hin : ∀ q ∈ u_ws C T N, q ∈ lw_tbl) : ∀ q ∈ u_ws C T N, q ∈ lw_g := fun q hq => lw_in (hin q hq) (by
  obtain ⟨k, -, rfl⟩ := List.mem_map.mp hq
  unfold u_lay
  split <;> rfl)
/-- a heap below the first own address is as it was -/
theorem va_S.low {w : WD} {s : State} {H : Heap} {locs : List Loc} (h : va_S (wO w) s.heap H locs) (hb : wB w ≤ s.heap.size) {q : Nat} (hq : q < wB w) : H[q]? = s.heap[q]? := h.2.1 q (Nat.lt_of_lt_of_le hq hb) (Nat.not_le.mpr hq)
theorem Sim.addr {w : WD} {h : AH} {H : Heap} {a : Nat} (ha : 32 ≤ a) : wO w (rho w a) := by rw [rho_own w ha]; exact Nat.le_add_right _ _
theorem isArr {w : WD} {s : State} (hK : va_K (w.1, w.2.1) vwCl (tysW w) s) {k : Nat} {q : ClassId × FieldType} (hk : (tysW w)[k]? = some q) (vs : List Value) : s.isArrayOf (arrL q.1 vs) q.2 := by
  rw [arrL_eq]
  exact (hK.2 k q hk).1 _ _
theorem Sim.recv {w : WD} {lm : Bool} {h : AH} {H : Heap} {s : State} {a ci : Nat} {r : vw_C} (hS : Sim w lm h H) (hK : va_K (w.1, w.2.1) vwCl (tysW w) s) (hc : hC h a = ci + 1) (hr : vwCl[ci]? = some r) : ∃ cell : Cell, H[rho w a]? = some cell ∧ cell.vm.isStatics = false ∧ s.vm.findClass r.1 = some cell.cls := by
  obtain ⟨-, -, cell, g1, g2, g3, -⟩ := hS.obj hc hr
  exact ⟨cell, g1, by rw [g3]; rfl, by rw [g2]; exact (hK.1 ci r hr).2.1⟩
