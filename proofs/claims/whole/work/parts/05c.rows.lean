/-! ===== each instruction of the small machine ===== -/
theorem setK_mk {α : Type} : ∀ {l : List α} {k : Nat} {v : α}, k < l.length → setK l k v (fun x => x = l.set k v)
  | [], _, _, h => absurd h (Nat.not_lt_zero _)
  | _ :: _, 0, _, _ => rfl
  | a :: r, k + 1, v, h => by
    have h2 := setK_mk (l := r) (k := k) (v := v) (Nat.lt_of_succ_lt_succ h)
    have h3 : ∀ {K K' : List α → Prop} (l : List α) (k : Nat) (v : α), (∀ x, K x → K' x) → setK l k v K → setK l k v K' := by
      intro K K' l
      induction l generalizing K K' with
      | nil => intro k v hk h; exact h.elim
      | cons b r ih =>
        intro k v hk h
        cases k with
        | zero => exact hk _ h
        | succ k => exact ih k v (fun x => hk _) h
    exact h3 r k v (fun x hx => by rw [hx]; rfl) h2
theorem setK_two {α : Type} {l : List α} {k : Nat} {v : α} {K : List α → Prop} (h : setK l k v K) : ∃ l2, setK l k v (fun x => x = l2) ∧ K l2 := by
  obtain ⟨a, b⟩ := setK_inv h
  exact ⟨_, setK_mk a, b⟩
theorem setK_mono {α : Type} {K K' : List α → Prop} {l : List α} {k : Nat} {v : α} (hk : ∀ x, K x → K' x) (h : setK l k v K) : setK l k v K' := by
  obtain ⟨a, b⟩ := setK_inv h
  have h2 := setK_mk (v := v) a
  have h3 : ∀ (l : List α) (k : Nat) (v : α) (K : List α → Prop), k < l.length → K (l.set k v) → setK l k v K := by
    intro l
    induction l with
    | nil => intro k v K h; exact absurd h (Nat.not_lt_zero _)
    | cons b r ih =>
      intro k v K h hK
      cases k with
      | zero => exact hK
      | succ k => exact ih k v _ (Nat.lt_of_succ_lt_succ h) hK
  exact h3 _ _ _ _ a (hk _ b)
theorem st1_two {l : List (Option AV)} {k : Nat} {v : AV} {K : List (Option AV) → Prop} (h : st1 l k v K) : ∃ l2, st1 l k v (fun x => x = l2) ∧ K l2 := by
  unfold st1 cutK at *
  split at h
  · exact setK_two h
  · split at h
    · obtain ⟨a, b⟩ := setK_inv h
      obtain ⟨l2, c, e⟩ := setK_two b
      refine ⟨l2, ?_, e⟩
      obtain ⟨c1, c2⟩ := setK_inv c
      refine setK_mono (fun x hx => ?_) (setK_mk a)
      rw [hx]
      exact c
    · exact setK_two h
theorem st2_two {l : List (Option AV)} {k : Nat} {v : AV} {K : List (Option AV) → Prop} (h : st2 l k v K) : ∃ l2, st2 l k v (fun x => x = l2) ∧ K l2 := by
  unfold st2 cutK at *
  have two : ∀ {l : List (Option AV)} {k : Nat}, setK l k (some v) (fun l2 => setK l2 (k + 1) none K) → ∃ l2, setK l k (some v) (fun l3 => setK l3 (k + 1) none (fun x => x = l2)) ∧ K l2 := by
    intro l k h
    obtain ⟨a, b⟩ := setK_inv h
    obtain ⟨l2, c, e⟩ := setK_two b
    exact ⟨l2, setK_mono (fun x hx => by rw [hx]; exact c) (setK_mk a), e⟩
  split at h
  · exact two h
  · split at h
    · obtain ⟨a, b⟩ := setK_inv h
      obtain ⟨l2, c, e⟩ := two b
      exact ⟨l2, setK_mono (fun x hx => by rw [hx]; exact c) (setK_mk a), e⟩
    · exact two h
section Rows
variable {p : Program} {l : Launch} {e : Env} {R : Room} {s : State} {m : MethodId} {args : Array Value} {below : List Frame} {meth : Method} {c : Code} {H : Heap} {locs : List Loc} {cells slots : Nat} {Z : State → Prop}
variable {cc : ByteArray} {pc : Nat} {ls ls' : Array Slot} {rest : List Value}
theorem w_istore (hexec : p.tables.exec = Jvm.exec) (hb : c.code = cc) {i : Nat} {x : Int32} (hdg : decode cc pc = .ok (.istore i, 2)) (e' : storeLocals ls i (.int x) = some ls')
    (k : W p l e R s m args below meth c H locs cells slots Z (F0 m (pc + 2) ls' rest)) : W p l e R s m args below meth c H locs cells slots Z (F0 m pc ls (.int x :: rest)) := by
  intro T hT X
  obtain ⟨t, a, b⟩ := k T hT X
  refine ⟨t, ?_, b⟩
  jvm_step X.here [X.here.top, ↓top_set X.here.top, hexec, hb, hdg, e']
  exact a
theorem w_istore_n (hexec : p.tables.exec = Jvm.exec) (hb : c.code = cc) {i : Fin 4} {x : Int32} (hdg : decode cc pc = .ok (.istore_n i, 1)) (e' : storeLocals ls i.val (.int x) = some ls')
    (k : W p l e R s m args below meth c H locs cells slots Z (F0 m (pc + 1) ls' rest)) : W p l e R s m args below meth c H locs cells slots Z (F0 m pc ls (.int x :: rest)) := by
  intro T hT X
  obtain ⟨t, a, b⟩ := k T hT X
  refine ⟨t, ?_, b⟩
  jvm_step X.here [X.here.top, ↓top_set X.here.top, hexec, hb, hdg, e']
  exact a
theorem w_lstore (hexec : p.tables.exec = Jvm.exec) (hb : c.code = cc) {i : Nat} {x : Int64} (hdg : decode cc pc = .ok (.lstore i, 2)) (e' : storeLocals ls i (.long x) = some ls')
    (k : W p l e R s m args below meth c H locs cells slots Z (F0 m (pc + 2) ls' rest)) : W p l e R s m args below meth c H locs cells slots Z (F0 m pc ls (.long x :: rest)) := by
  intro T hT X
  obtain ⟨t, a, b⟩ := k T hT X
  refine ⟨t, ?_, b⟩
  jvm_step X.here [X.here.top, ↓top_set X.here.top, hexec, hb, hdg, e']
  exact a
theorem w_lstore_n (hexec : p.tables.exec = Jvm.exec) (hb : c.code = cc) {i : Fin 4} {x : Int64} (hdg : decode cc pc = .ok (.lstore_n i, 1)) (e' : storeLocals ls i.val (.long x) = some ls')
    (k : W p l e R s m args below meth c H locs cells slots Z (F0 m (pc + 1) ls' rest)) : W p l e R s m args below meth c H locs cells slots Z (F0 m pc ls (.long x :: rest)) := by
  intro T hT X
  obtain ⟨t, a, b⟩ := k T hT X
  refine ⟨t, ?_, b⟩
  jvm_step X.here [X.here.top, ↓top_set X.here.top, hexec, hb, hdg, e']
  exact a
theorem w_astore (hexec : p.tables.exec = Jvm.exec) (hb : c.code = cc) {i : Nat} {r : Option Nat} (hdg : decode cc pc = .ok (.astore i, 2)) (e' : storeLocals ls i (va_rf r) = some ls')
    (k : W p l e R s m args below meth c H locs cells slots Z (F0 m (pc + 2) ls' rest)) : W p l e R s m args below meth c H locs cells slots Z (F0 m pc ls (va_rf r :: rest)) := by
  intro T hT X
  obtain ⟨t, a, b⟩ := k T hT X
  refine ⟨t, ?_, b⟩
  cases r with
  | none =>
    jvm_step X.here [X.here.top, ↓top_set X.here.top, hexec, hb, hdg, e', va_rf, Value.isRef]
    exact ⟨ls', e', a⟩
  | some q =>
    jvm_step X.here [X.here.top, ↓top_set X.here.top, hexec, hb, hdg, e', va_rf, Value.isRef]
    exact ⟨ls', e', a⟩
theorem w_astore_n (hexec : p.tables.exec = Jvm.exec) (hb : c.code = cc) {i : Fin 4} {r : Option Nat} (hdg : decode cc pc = .ok (.astore_n i, 1)) (e' : storeLocals ls i.val (va_rf r) = some ls')
    (k : W p l e R s m args below meth c H locs cells slots Z (F0 m (pc + 1) ls' rest)) : W p l e R s m args below meth c H locs cells slots Z (F0 m pc ls (va_rf r :: rest)) := by
  intro T hT X
  obtain ⟨t, a, b⟩ := k T hT X
  refine ⟨t, ?_, b⟩
  cases r with
  | none =>
    jvm_step X.here [X.here.top, ↓top_set X.here.top, hexec, hb, hdg, e', va_rf, Value.isRef]
    exact ⟨ls', e', a⟩
  | some q =>
    jvm_step X.here [X.here.top, ↓top_set X.here.top, hexec, hb, hdg, e', va_rf, Value.isRef]
    exact ⟨ls', e', a⟩
theorem w_aload_n (hexec : p.tables.exec = Jvm.exec) (hb : c.code = cc) {i : Fin 4} {r : Option Nat} (hdg : decode cc pc = .ok (.aload_n i, 1)) (hl : ls[i.val]? = some (.val (va_rf r)))
    (k : W p l e R s m args below meth c H locs cells slots Z (F0 m (pc + 1) ls (va_rf r :: rest))) : W p l e R s m args below meth c H locs cells slots Z (F0 m pc ls rest) := by
  cases r with
  | none => exact lv_aload_nN hexec hb hdg rfl hl k
  | some q => exact lv_aload_n hexec hb hdg rfl hl k
theorem w_aload (hexec : p.tables.exec = Jvm.exec) (hb : c.code = cc) {i : Nat} {r : Option Nat} (hdg : decode cc pc = .ok (.aload i, 2)) (hl : ls[i]? = some (.val (va_rf r)))
    (k : W p l e R s m args below meth c H locs cells slots Z (F0 m (pc + 2) ls (va_rf r :: rest))) : W p l e R s m args below meth c H locs cells slots Z (F0 m pc ls rest) := by
  cases r with
  | none => exact lv_aloadN hexec hb hdg hl k
  | some q => exact lv_aload hexec hb hdg hl k
theorem w_iinc (hexec : p.tables.exec = Jvm.exec) (hb : c.code = cc) {i : Nat} {n : Int} {x v : Int32} (hdg : decode cc pc = .ok (.iinc i n, 3)) (hl : ls[i]? = some (.val (.int x))) (hv : x + Int32.ofInt n = v) (e' : storeLocals ls i (.int v) = some ls')
    (k : W p l e R s m args below meth c H locs cells slots Z (F0 m (pc + 3) ls' rest)) : W p l e R s m args below meth c H locs cells slots Z (F0 m pc ls rest) := by
  intro T hT X
  obtain ⟨t, a, b⟩ := k T hT X
  refine ⟨t, ?_, b⟩
  subst hv
  jvm_step X.here [X.here.top, ↓top_set X.here.top, hexec, hb, hdg, hl, e']
  exact a
end Rows
theorem ixIn_lt {j : Int32} {n : Nat} (h : ixIn j n) : ¬ j < 0 ∧ j.toNatClampNeg < n := ⟨fun g => h (Or.inl g), by have : ¬ n ≤ j.toNatClampNeg := fun g => h (Or.inr g); omega⟩
