/-! ===== the class: the planner is opened, pages are offered ===== -/
theorem ins_row {bw : List Nat} {p N : Nat} (hl : bw.length = N) (hp : p ≤ N) (k : Nat) : gN (bw.take p ++ N :: bw.drop p) k = if k < p then gN bw k else if k = p then N else gN bw (k - 1) := by
  have ht : (bw.take p).length = p := by rw [List.length_take]; omega
  unfold gN
  rw [List.getD_eq_getElem?_getD, List.getD_eq_getElem?_getD, List.getD_eq_getElem?_getD]
  by_cases c : k < p
  · rw [if_pos c, List.getElem?_append_left (by omega), List.getElem?_take_of_lt c]
  · rw [if_neg c, List.getElem?_append_right (by omega), ht]
    by_cases c2 : k = p
    · rw [if_pos c2, c2, Nat.sub_self, List.getElem?_cons_zero]; rfl
    · rw [if_neg c2, show k - p = (k - 1 - p) + 1 by omega, List.getElem?_cons_succ, List.getElem?_drop, show p + (k - 1 - p) = k - 1 by omega]
theorem gN_app {L : List Nat} {x i : Nat} : gN (L ++ [x]) i = if i < L.length then gN L i else if i = L.length then x else 0 := by
  unfold gN
  rw [List.getD_eq_getElem?_getD, List.getD_eq_getElem?_getD]
  by_cases c : i < L.length
  · rw [if_pos c, List.getElem?_append_left c]
  · rw [if_neg c, List.getElem?_append_right (by omega)]
    by_cases c2 : i = L.length
    · rw [if_pos c2, c2, Nat.sub_self]; rfl
    · rw [if_neg c2, List.getElem?_eq_none (by rw [List.length_singleton]; omega)]; rfl
theorem mem_gN {L : List Nat} {x : Nat} (hx : x ∈ L) : ∃ k, k < L.length ∧ gN L k = x := by
  obtain ⟨k, hk, e⟩ := List.mem_iff_getElem.mp hx
  exact ⟨k, hk, by unfold gN; rw [List.getD_eq_getElem?_getD, List.getElem?_eq_getElem hk]; exact e⟩
/-- a row put in its place -/
theorem pw_ins {wt : Nat → Nat} {bw : List Nat} {p x : Nat} (h : bw.Pairwise (fun x y => wt y ≤ wt x)) (h1 : ∀ k, k < p → k < bw.length → wt x ≤ wt (gN bw k)) (h2 : ∀ k, p ≤ k → k < bw.length → wt (gN bw k) ≤ wt x) : (bw.take p ++ x :: bw.drop p).Pairwise (fun x y => wt y ≤ wt x) := by
  have h0 := h
  rw [← List.take_append_drop p bw, List.pairwise_append] at h
  obtain ⟨a1, a2, a3⟩ := h
  have t1 : ∀ y, y ∈ bw.take p → wt x ≤ wt y := fun y hy => by
    obtain ⟨k, hk, e⟩ := List.mem_iff_getElem.mp hy
    rw [List.length_take] at hk
    have := h1 k (by omega) (by omega)
    rw [List.getElem_take] at e
    have e2 : gN bw k = y := by unfold gN; rw [List.getD_eq_getElem?_getD, List.getElem?_eq_getElem (by omega)]; exact e
    rw [e2] at this
    exact this
  have t2 : ∀ y, y ∈ bw.drop p → wt y ≤ wt x := fun y hy => by
    obtain ⟨k, hk, e⟩ := List.mem_iff_getElem.mp hy
    rw [List.length_drop] at hk
    have := h2 (p + k) (by omega) (by omega)
    rw [List.getElem_drop] at e
    have e2 : gN bw (p + k) = y := by unfold gN; rw [List.getD_eq_getElem?_getD, List.getElem?_eq_getElem (by omega)]; exact e
    rw [e2] at this
    exact this
  refine List.pairwise_append.mpr ⟨a1, List.pairwise_cons.mpr ⟨t2, a2⟩, fun y hy z hz => ?_⟩
  rcases List.mem_cons.mp hz with e | e
  · rw [e]; exact t1 y hy
  · exact a3 y hy z e
def okq (S : SG) (p : Nat) : Bool := decide ((gNv S).getD ((gDs S).getD p 0).toNatClampNeg 0 = 0)
def clU (S : SG) (st : Int32) (p : Nat) : List Nat := (memU st p).filter (okq S)
/-- what stands but the items -/
def PLR (S : SG) (h : AH) : Prop := hI h 267 42 = gNg S ∧ (∀ k, k < 6 → (aI h 47).getD k 0 = ltA (gRt S) k ∧ (aI h 48).getD k 0 = 0) ∧ ∀ k, k < 12 → (aI h 50).getD k 0 = -1 ∧ (aI h 51).getD k 0 = -1
def PLC (S : SG) (cl : List Nat) (h : AH) : Prop := hI h 266 42 = nI cl.length ∧ cl.length ≤ 7 ∧ (∀ i, i < cl.length → (gN cl i < (gDs S).length ∧ okq S (gN cl i) = true) ∧ (aI h 43).getD i 0 = nI (gN cl i) ∧ (aI h 44).getD i 0 = nI (drS S cl i) ∧ (aI h 45).getD i 0 = nI (wtN S cl i)) ∧ BWH cl.length (wtN S cl) h
section C20
variable {l : Launch} {w : WD} {d : Nat} {g h : AH} {Q : Option AV → AH → Prop} {S : SG} {G : GH} {p : Nat}
theorem c_open (hK : KP S G g h) (q : ∀ h', KP S G g h' → PLR S h' → PLC S [] h' → Q none h') : Con l w true (d + 1) HX3_open [vr 42, vr (hR h 583 32)] h 0 0 Q := by
  have lp2 : ∀ n k h', k + n = 12 → KP S G g h' → hI h' 266 42 = 0 → hI h' 267 42 = gNg S → (∀ k, k < 6 → (aI h' 47).getD k 0 = ltA (gRt S) k ∧ (aI h' 48).getD k 0 = 0) → (∀ j, j < k → (aI h' 50).getD j 0 = -1 ∧ (aI h' 51).getD j 0 = -1) → Ex l w true mX3_open (d + 1) Q 47 [some (vr 42), some (vr (hR h 583 32)), some (vi (nI k))] [] h' 0 0 := by
    intro n
    induction n with
    | zero =>
      intro k h' hk hK' e1 e2 e3 e4
      have : k = 12 := by omega
      subst this
      refine go ok_X3_open ?_
      refine And.intro (fun c => ?_) (fun c => absurd c (by decide))
      refine go ok_X3_open ?_
      exact q h' hK' ⟨e2, e3, e4⟩ ⟨e1, Nat.zero_le _, fun i hi => absurd hi (Nat.not_lt_zero _), ⟨[], rfl, fun x => ⟨fun z => absurd z (by simp), fun z => absurd z (Nat.not_lt_zero _)⟩, List.Pairwise.nil, fun k hk => absurd hk (Nat.not_lt_zero _)⟩⟩
    | succ n ih =>
      intro k h' hk hK' e1 e2 e3 e4
      refine Ex.lay (fun hy => ?_)
      refine go ok_X3_open ?_
      refine asAnd ?_
      rw [show (12 : Int32) = nI 12 from rfl, nI_leI (by omega) (by omega)]
      refine And.intro (fun c => ?_) (fun c => ?_)
      · omega
      · have hh := ih (k + 1) (tI (tI h' 50 ((aI h' 50).set k (-1))) 51 ((aI h' 51).set k (-1))) (by omega) ((hK'.t (by decide)).t (by decide)) e1 e2 e3 (fun j hj => by
          show ((aI h' 50).set k (-1)).getD j 0 = -1 ∧ ((aI h' 51).set k (-1)).getD j 0 = -1
          rw [getD_set, getD_set, yn50 hy, yn51 hy]
          by_cases e : j = k
          · rw [if_pos ⟨e, by omega⟩, if_pos ⟨e, by omega⟩]; exact ⟨rfl, rfl⟩
          · rw [if_neg (fun z => e z.1), if_neg (fun z => e z.1)]; exact e4 j (by omega))
        rw [← nI_1] at hh
        refine go ok_X3_open ?_
        refine And.intro (jx50 hy rfl (by omega)) ?_
        refine And.intro (show jxI h' 51 _ from jx51 hy rfl (by omega)) ?_
        rw [nI_clamp (n := k) (by omega)]
        exact hh
  have lp1 : ∀ n k h', k + n = 6 → KP S G g h' → hR h' 583 32 = hR h 583 32 → hI h' 266 42 = 0 → hI h' 267 42 = gNg S → (∀ j, j < k → (aI h' 47).getD j 0 = ltA (gRt S) j ∧ (aI h' 48).getD j 0 = 0) → Ex l w true mX3_open (d + 1) Q 15 [some (vr 42), some (vr (hR h 583 32)), some (vi (nI k))] [] h' 0 0 := by
    intro n
    induction n with
    | zero =>
      intro k h' hk hK' er e1 e2 e3
      have : k = 6 := by omega
      subst this
      refine go ok_X3_open ?_
      refine And.intro (fun c => ?_) (fun c => absurd c (by decide))
      refine go ok_X3_open ?_
      exact lp2 12 0 h' (by omega) hK' e1 e2 e3 (fun j hj => by omega)
    | succ n ih =>
      intro k h' hk hK' er e1 e2 e3
      have hrt := hK'.1.rt
      rw [er] at hrt
      refine Ex.lay (fun hy => ?_)
      refine go ok_X3_open ?_
      refine asAnd ?_
      rw [show (6 : Int32) = nI 6 from rfl, nI_leI (by omega) (by omega)]
      refine And.intro (fun c => ?_) (fun c => ?_)
      · omega
      · have hh := ih (k + 1) (tI (tI h' 47 ((aI h' 47).set k (ltA (gRt S) k))) 48 ((aI h' 48).set k 0)) (by omega) ((hK'.t (by decide)).t (by decide)) er e1 e2 (fun j hj => by
          show ((aI h' 47).set k (ltA (gRt S) k)).getD j 0 = _ ∧ ((aI h' 48).set k 0).getD j 0 = 0
          rw [getD_set, getD_set, yn47 hy, yn48 hy]
          by_cases e : j = k
          · rw [if_pos ⟨e, by omega⟩, if_pos ⟨e, by omega⟩, e]; exact ⟨rfl, rfl⟩
          · rw [if_neg (fun z => e z.1), if_neg (fun z => e z.1)]; exact e3 j (by omega))
        rw [← nI_1] at hh
        refine go ok_X3_open ?_
        refine And.intro hrt.1 ?_
        refine Cal.z (c_letOf hrt (by omega) ?_)
        refine go ok_X3_open ?_
        refine And.intro (jx47 hy rfl (by omega)) ?_
        refine And.intro (show jxI h' 48 _ from jx48 hy rfl (by omega)) ?_
        rw [nI_clamp (n := k) (by omega)]
        exact hh
  refine Con.of ok_X3_open (nones := [none]) rfl (by simp) ?_
  refine go ok_X3_open ?_
  refine And.intro hK.1.rt.1 ?_
  exact lp1 6 0 _ (by omega) ((hK.s (by decide)).s (by decide)) rfl rfl hK.1.rt.2.2.2.2.1 (fun j hj => by omega)
end C20

