/-! ===== the small machine's steps are the machine's ===== -/
theorem oI_inv {st : List AV} {K : Int32 → List AV → Prop} (h : oI st K) : ∃ x r, st = .inl x :: r ∧ K x r := by
  unfold oI at h
  split at h
  · exact ⟨_, _, rfl, h⟩
  · exact h.elim
theorem oL_inv {st : List AV} {K : Int64 → List AV → Prop} (h : oL st K) : ∃ x r, st = .inr (.inl x) :: r ∧ K x r := by
  unfold oL at h
  split at h
  · exact ⟨_, _, rfl, h⟩
  · exact h.elim
theorem oR_inv {st : List AV} {K : Nat → List AV → Prop} (h : oR st K) : ∃ x r, st = .inr (.inr x) :: r ∧ K x r := by
  unfold oR at h
  split at h
  · exact ⟨_, _, rfl, h⟩
  · exact h.elim
theorem oII_inv {st : List AV} {K : Int32 → Int32 → List AV → Prop} (h : oII st K) : ∃ x y r, st = .inl y :: .inl x :: r ∧ K x y r := by
  obtain ⟨y, r1, rfl, h1⟩ := oI_inv h
  obtain ⟨x, r, rfl, h2⟩ := oI_inv h1
  exact ⟨x, y, r, rfl, h2⟩
theorem oLL_inv {st : List AV} {K : Int64 → Int64 → List AV → Prop} (h : oLL st K) : ∃ x y r, st = .inr (.inl y) :: .inr (.inl x) :: r ∧ K x y r := by
  obtain ⟨y, r1, rfl, h1⟩ := oL_inv h
  obtain ⟨x, r, rfl, h2⟩ := oL_inv h1
  exact ⟨x, y, r, rfl, h2⟩
theorem oLI_inv {st : List AV} {K : Int64 → Int32 → List AV → Prop} (h : oLI st K) : ∃ x y r, st = .inl y :: .inr (.inl x) :: r ∧ K x y r := by
  obtain ⟨y, r1, rfl, h1⟩ := oI_inv h
  obtain ⟨x, r, rfl, h2⟩ := oL_inv h1
  exact ⟨x, y, r, rfl, h2⟩
theorem oRR_inv {st : List AV} {K : Nat → Nat → List AV → Prop} (h : oRR st K) : ∃ x y r, st = .inr (.inr y) :: .inr (.inr x) :: r ∧ K x y r := by
  obtain ⟨y, r1, rfl, h1⟩ := oR_inv h
  obtain ⟨x, r, rfl, h2⟩ := oR_inv h1
  exact ⟨x, y, r, rfl, h2⟩
theorem oRI_inv {st : List AV} {K : Nat → Int32 → List AV → Prop} (h : oRI st K) : ∃ a j r, st = .inl j :: .inr (.inr a) :: r ∧ K a j r := by
  obtain ⟨y, r1, rfl, h1⟩ := oI_inv h
  obtain ⟨x, r, rfl, h2⟩ := oR_inv h1
  exact ⟨x, y, r, rfl, h2⟩
theorem ldI_inv {l : List (Option AV)} {k : Nat} {K : AV → Prop} (h : ldI l k K) : ∃ x, l[k]? = some (some (.inl x)) ∧ K (.inl x) := by
  unfold ldI at h
  split at h
  · rename_i x e
    exact ⟨x, e, h⟩
  · exact h.elim
theorem ldL_inv {l : List (Option AV)} {k : Nat} {K : AV → Prop} (h : ldL l k K) : ∃ x, l[k]? = some (some (.inr (.inl x))) ∧ K (.inr (.inl x)) := by
  unfold ldL at h
  split at h
  · rename_i x e
    exact ⟨x, e, h⟩
  · exact h.elim
theorem ldR_inv {l : List (Option AV)} {k : Nat} {K : AV → Prop} (h : ldR l k K) : ∃ x, l[k]? = some (some (.inr (.inr x))) ∧ K (.inr (.inr x)) := by
  unfold ldR at h
  split at h
  · rename_i x e
    exact ⟨x, e, h⟩
  · exact h.elim
theorem setK_inv {α : Type} : ∀ {l : List α} {k : Nat} {v : α} {K : List α → Prop}, setK l k v K → k < l.length ∧ K (l.set k v)
  | [], _, _, _, h => h.elim
  | _ :: r, 0, v, K, h => ⟨Nat.succ_pos _, h⟩
  | a :: r, k + 1, v, K, h => by
    have h2 := setK_inv (l := r) (k := k) (v := v) (K := fun r' => K (a :: r')) h
    exact ⟨Nat.succ_lt_succ h2.1, h2.2⟩
theorem popK_inv : ∀ {n : Nat} {st as : List AV} {K : List AV → List AV → Prop}, popK n st as K → ∃ as' r, as'.length = n ∧ st = as'.reverse ++ r ∧ K (as' ++ as) r
  | 0, st, as, K, h => ⟨[], st, rfl, rfl, h⟩
  | n + 1, [], _, _, h => h.elim
  | n + 1, v :: r, as, K, h => by
    obtain ⟨as', r', h1, h2, h3⟩ := popK_inv (n := n) (st := r) (as := v :: as) (K := K) h
    refine ⟨as' ++ [v], r', by simp [h1], by simp [h2], by simpa using h3⟩
theorem rv_cat (w : WD) (v : AV) : (rv w v).category = cw v := by
  rcases v with x | x | n
  · rfl
  · rfl
  · show (rvr w n).category = 1
    unfold rvr rvo
    split <;> rfl
theorem rv_cats (w : WD) : ∀ st : List AV, ((st.map (rv w)).map fun v => v.category).sum = cws st
  | [] => rfl
  | v :: r => by
    rw [List.map_cons, List.map_cons, List.sum_cons, rv_cat, rv_cats w r]
    rfl
theorem rvr_pos (w : WD) {n : Nat} (h : n ≠ 0) : rvr w n = .ref (rho w n) := by unfold rvr rvo; rw [if_neg h]; rfl
theorem rvr_zero (w : WD) : rvr w 0 = .null := rfl
section Sound
variable {l : Launch} {w : WD} {lm : Bool} {X : MD} {d : Nat} {Q : Option AV → AH → Prop} {pc : Nat}
theorem Ex.pure {pc' : Nat} {ll : List (Option AV)} {st st' : List AV} {h : AH} {bc bs : Nat}
    (row : ∀ (p : Program) (e : Env) (R : Room) (s : State) (m : MethodId) (args : Array Value) (below : List Frame) (meth : Method) (c : Code) (H : Heap) (locs : List Loc) (cells slots : Nat) (Z : State → Prop) (ls : Array Slot), Cx w X p s m args meth c → LOK w ls ll → R.frames = d → R.locals = 64 * d → cells ≤ R.cells → slots ≤ R.slots → Sim w lm h H → va_S (wO w) s.heap H locs → ll.length = X.1.2.2.1 →
      W p l e R s m args below meth c H locs cells slots Z (F0 m pc' ls (st'.map (rv w))) → W p l e R s m args below meth c H locs cells slots Z (F0 m pc ls (st.map (rv w))))
    (k : Ex l w lm X d Q pc' ll st' h bc bs) : Ex l w lm X d Q pc ll st h bc bs := by
  intro p e R s m args below meth c H locs cells slots ls hC hf hl hc hs hS hL hn hva
  exact row p e R s m args below meth c H locs cells slots _ ls hC hL hf hl (by omega) (by omega) hS hva hn (k p e R s m args below meth c H locs cells slots ls hC hf hl hc hs hS hL hn hva)
theorem so_push {i : Instr} {n : Nat} {v : AV} {ll : List (Option AV)} {st : List AV} {h : AH} {bc bs : Nat}
    (row : ∀ (p : Program) (e : Env) (R : Room) (s : State) (m : MethodId) (args : Array Value) (below : List Frame) (meth : Method) (c : Code) (H : Heap) (locs : List Loc) (cells slots : Nat) (Z : State → Prop) (ls : Array Slot), Cx w X p s m args meth c → LOK w ls ll →
      W p l e R s m args below meth c H locs cells slots Z (F0 m (pc + n) ls (rv w v :: st.map (rv w))) → W p l e R s m args below meth c H locs cells slots Z (F0 m pc ls (st.map (rv w))))
    (k : Ex l w lm X d Q (pc + n) ll (v :: st) h bc bs) : Ex l w lm X d Q pc ll st h bc bs :=
  Ex.pure (fun p e R s m args below meth c H locs cells slots Z ls hC hL _ _ _ _ _ _ _ k => row p e R s m args below meth c H locs cells slots Z ls hC hL k) k
/-- a store of one word -/
theorem LOK.store1 {ls : Array Slot} {ll l2 : List (Option AV)} {k : Nat} {v : AV} (hL : LOK w ls ll) (hv : cw v = 1) (hs : st1 ll k v (fun l => l = l2)) : ∃ ls', storeLocals ls k (rv w v) = some ls' ∧ LOK w ls' l2 ∧ l2.length = ll.length := by
  obtain ⟨h1, h2, h3⟩ := hL
  have hcat : (rv w v).category = 1 := by rw [rv_cat]; exact hv
  have key : ∃ l1 : List (Option AV), l1.length = ll.length ∧ l2 = l1.set k (some v) ∧ k < ll.length ∧ (∀ (j : Nat) (u : AV), l1[j]? = some (some u) → ll[j]? = some (some u)) ∧ (∀ (j : Nat) (u : AV), j + 1 = k → l1[j]? = some (some u) → cw u = 1) := by
    unfold st1 cutK at hs
    split at hs
    · obtain ⟨a, b⟩ := setK_inv hs
      exact ⟨ll, rfl, b.symm, a, fun j u hu => hu, fun j u hj => by omega⟩
    · rename_i j
      split at hs
      · rename_i x e
        obtain ⟨a, b⟩ := setK_inv hs
        obtain ⟨a2, b2⟩ := setK_inv b
        refine ⟨ll.set j none, by simp, b2.symm, by simpa using a2, fun i u hu => ?_, fun i u hi hu => ?_⟩
        · rw [List.getElem?_set] at hu
          split at hu
          · first
            | exact absurd hu (by simp)
            | (split at hu <;> exact absurd hu (by simp))
          · exact hu
        · have : i = j := by omega
          subst this
          rw [List.getElem?_set] at hu
          simp [a] at hu
      · rename_i hne
        obtain ⟨a, b⟩ := setK_inv hs
        refine ⟨ll, rfl, b.symm, a, fun i u hu => hu, fun i u hi hu => ?_⟩
        have : i = j := by omega
        subst this
        rcases u with x | x | x
        · rfl
        · exact absurd hu (hne x)
        · rfl
  obtain ⟨l1, e1, rfl, hk, hsub, hone⟩ := key
  have hnL : k < ls.size := by rw [h1]; exact hk
  obtain ⟨ls', e', h'⟩ := lv_store1 (ls := ls) (nL := ls.size) (l := []) (i := k) (v := rv w v) ⟨rfl, h2, fun q hq => absurd hq List.not_mem_nil⟩ hnL hcat
  refine ⟨ls', e', ⟨by rw [h'.1, h1]; simp [e1], h'.2.1, fun i u hu => ?_⟩, by simp [e1]⟩
  rw [List.getElem?_set] at hu
  split at hu
  · rename_i hik
    subst hik
    have e5 : v = u := by
      have h9 : k < l1.length := by rw [e1]; exact hk
      simpa [h9] using hu
    subst e5
    exact h'.2.2 (k, rv w v) List.mem_cons_self
  · rename_i hik
    have h0 := hsub i u hu
    obtain ⟨ls'', e'', h''⟩ := lv_store1 (ls := ls) (nL := ls.size) (l := [(i, rv w u)]) (i := k) (v := rv w v) ⟨rfl, h2, fun q hq => by rw [List.mem_singleton] at hq; subst hq; exact h3 i u h0⟩ hnL hcat
    have e3 : ls'' = ls' := Option.some.inj (e''.symm.trans e')
    subst e3
    refine h''.2.2 (i, rv w u) (List.mem_cons_of_mem _ ?_)
    rw [List.mem_filter]
    refine ⟨List.mem_singleton.mpr rfl, ?_⟩
    have a1 : (i == k) = false := by simpa using fun h => hik h.symm
    simp only [a1, Bool.not_false, Bool.true_and]
    by_cases hj : i + 1 = k
    · have := hone i u hj hu
      simp [rv_cat, this]
    · simp [hj]
theorem LOK.store2 {ls : Array Slot} {ll l2 : List (Option AV)} {k : Nat} {v : AV} (hL : LOK w ls ll) (hv : cw v = 2) (hs : st2 ll k v (fun l => l = l2)) : ∃ ls', storeLocals ls k (rv w v) = some ls' ∧ LOK w ls' l2 ∧ l2.length = ll.length := by
  obtain ⟨h1, h2, h3⟩ := hL
  have hcat : (rv w v).category = 2 := by rw [rv_cat]; exact hv
  have key : ∃ l1 : List (Option AV), l1.length = ll.length ∧ l2 = (l1.set k (some v)).set (k + 1) none ∧ k + 1 < ll.length ∧ (∀ (j : Nat) (u : AV), l1[j]? = some (some u) → ll[j]? = some (some u)) ∧ (∀ (j : Nat) (u : AV), j + 1 = k → l1[j]? = some (some u) → cw u = 1) := by
    unfold st2 cutK at hs
    split at hs
    · obtain ⟨a, b⟩ := setK_inv hs
      obtain ⟨a2, b2⟩ := setK_inv b
      exact ⟨ll, rfl, b2.symm, by simpa using a2, fun j u hu => hu, fun j u hj => by omega⟩
    · rename_i j
      split at hs
      · rename_i x e
        obtain ⟨a, b⟩ := setK_inv hs
        obtain ⟨a2, b2⟩ := setK_inv b
        obtain ⟨a3, b3⟩ := setK_inv b2
        refine ⟨ll.set j none, by simp, b3.symm, by simpa using a3, fun i u hu => ?_, fun i u hi hu => ?_⟩
        · rw [List.getElem?_set] at hu
          split at hu
          · first
            | exact absurd hu (by simp)
            | (split at hu <;> exact absurd hu (by simp))
          · exact hu
        · have : i = j := by omega
          subst this
          rw [List.getElem?_set] at hu
          simp [a] at hu
      · rename_i hne
        obtain ⟨a, b⟩ := setK_inv hs
        obtain ⟨a2, b2⟩ := setK_inv b
        refine ⟨ll, rfl, b2.symm, by simpa using a2, fun i u hu => hu, fun i u hi hu => ?_⟩
        have : i = j := by omega
        subst this
        rcases u with x | x | x
        · rfl
        · exact absurd hu (hne x)
        · rfl
  obtain ⟨l1, e1, rfl, hk, hsub, hone⟩ := key
  have hnL : k + 1 < ls.size := by rw [h1]; exact hk
  obtain ⟨ls', e', h'⟩ := lv_store2 (ls := ls) (nL := ls.size) (l := []) (i := k) (v := rv w v) ⟨rfl, h2, fun q hq => absurd hq List.not_mem_nil⟩ hnL hcat
  refine ⟨ls', e', ⟨by rw [h'.1, h1]; simp [e1], h'.2.1, fun i u hu => ?_⟩, by simp [e1]⟩
  rw [List.getElem?_set] at hu
  split at hu
  · first
    | exact absurd hu (by simp)
    | (split at hu <;> exact absurd hu (by simp))
  · rename_i hik2
    rw [List.getElem?_set] at hu
    split at hu
    · rename_i hik
      subst hik
      have e5 : v = u := by
        have h9 : k < l1.length := by rw [e1]; omega
        simpa [h9] using hu
      subst e5
      exact h'.2.2 (k, rv w v) List.mem_cons_self
    · rename_i hik
      have h0 := hsub i u hu
      obtain ⟨ls'', e'', h''⟩ := lv_store2 (ls := ls) (nL := ls.size) (l := [(i, rv w u)]) (i := k) (v := rv w v) ⟨rfl, h2, fun q hq => by rw [List.mem_singleton] at hq; subst hq; exact h3 i u h0⟩ hnL hcat
      have e3 : ls'' = ls' := Option.some.inj (e''.symm.trans e')
      subst e3
      refine h''.2.2 (i, rv w u) (List.mem_cons_of_mem _ ?_)
      rw [List.mem_filter]
      refine ⟨List.mem_singleton.mpr rfl, ?_⟩
      have a1 : (i == k) = false := by simpa using fun h => hik h.symm
      have a2 : (i == k + 1) = false := by simpa using fun h => hik2 h.symm
      simp only [a1, a2, Bool.not_false, Bool.true_and]
      by_cases hj : i + 1 = k
      · have := hone i u hj hu
        simp [rv_cat, this]
      · simp [hj]
end Sound
