/-! ===== plans: the bound by rooms, the best exists, plans of those that may ===== -/
section Greedy
variable (N : Nat) (dr wt : Nat → Nat)
def cwD (k : Nat) : Nat → Nat := fun x => if dr x = k then 1 else 0
/-- the dearest first, as many as each door and the night have room -/
def grB (gn : Nat → Bool) : List Nat → (Nat → Nat) → Nat → Nat
  | [], _, _ => 0
  | _ :: _, _, 0 => 0
  | i :: r, rm, kn + 1 => if gn i = true ∨ rm (dr i) = 0 then grB gn r rm (kn + 1) else wt i + grB gn r (upF rm (dr i) (rm (dr i) - 1)) kn
theorem grB_0 (gn : Nat → Bool) (r : List Nat) (rm : Nat → Nat) : grB dr wt gn r rm 0 = 0 := by cases r <;> rfl
theorem grB_le {W : Nat} {gn : Nat → Bool} : ∀ (r : List Nat) (rm : Nat → Nat) (kn : Nat), (∀ x, x ∈ r → wt x ≤ W) → grB dr wt gn r rm kn ≤ r.length * W
  | [], _, _, _ => Nat.zero_le _
  | _ :: _, _, 0, _ => Nat.zero_le _
  | i :: r, rm, kn + 1, h => by
    rw [grB, List.length_cons, Nat.add_mul, Nat.one_mul]
    have h1 := h i (List.mem_cons_self ..)
    split
    · have := grB_le (gn := gn) r rm (kn + 1) (fun x hx => h x (List.mem_cons_of_mem _ hx)); omega
    · have := grB_le (gn := gn) r (upF rm (dr i) (rm (dr i) - 1)) kn (fun x hx => h x (List.mem_cons_of_mem _ hx)); omega
theorem lsm_mem_le {wt : Nat → Nat} : ∀ {L : List Nat} {x : Nat}, x ∈ L → wt x ≤ lsm wt L
  | y :: r, x, h => by
    rw [lsm]
    rcases List.mem_cons.mp h with z | z
    · subst z; omega
    · have := lsm_mem_le (wt := wt) z; omega
theorem lsm_pos {wt : Nat → Nat} : ∀ {L : List Nat}, lsm wt L ≠ 0 → ∃ x, x ∈ L ∧ wt x ≠ 0
  | [], h => absurd rfl h
  | y :: r, h => by
    by_cases c : wt y = 0
    · rw [lsm, c, Nat.zero_add] at h
      obtain ⟨x, h1, h2⟩ := lsm_pos h
      exact ⟨x, List.mem_cons_of_mem _ h1, h2⟩
    · exact ⟨y, List.mem_cons_self .., c⟩
theorem grB_ub {gn : Nat → Bool} : ∀ (r : List Nat) (rm : Nat → Nat) (kn : Nat) (L : List Nat), r.Pairwise (fun x y => wt y ≤ wt x) → L.Nodup → L.length ≤ kn → (∀ x, x ∈ L → x ∈ r ∧ gn x = false) → (∀ k, lsm (cwD dr k) L ≤ rm k) → lsm wt L ≤ grB dr wt gn r rm kn
  | [], rm, kn, L, _, _, _, hm, _ => by
    cases L with
    | nil => exact Nat.zero_le _
    | cons x t => exact absurd (hm x (List.mem_cons_self ..)).1 (by simp)
  | i :: r, rm, 0, L, _, _, hl, _, _ => by
    have : L = [] := List.length_eq_zero_iff.mp (by omega)
    subst this
    exact Nat.zero_le _
  | i :: r, rm, kn + 1, L, hs, hn, hl, hm, hr => by
    obtain ⟨hs1, hs2⟩ := List.pairwise_cons.mp hs
    rw [grB]
    split
    · rename_i c
      refine grB_ub r rm (kn + 1) L hs2 hn hl (fun x hx => ⟨?_, (hm x hx).2⟩) hr
      rcases List.mem_cons.mp (hm x hx).1 with z | z
      · exfalso
        subst z
        rcases c with c | c
        · rw [(hm x hx).2] at c; cases c
        · have h1 := lsm_mem_le (wt := cwD dr (dr x)) hx
          have h2 := hr (dr x)
          rw [show cwD dr (dr x) x = 1 from if_pos rfl] at h1
          omega
      · exact z
    · rename_i c
      have c1 : gn i = false := by cases e : gn i with
        | false => rfl
        | true => exact absurd (Or.inl e) c
      have c2 : rm (dr i) ≠ 0 := fun z => c (Or.inr z)
      have fin : ∀ y, y ∈ L → wt y ≤ wt i → (∀ x, x ∈ L → x = i → y = i) → (lsm (cwD dr (dr i)) L ≠ 0 → dr y = dr i) → lsm wt L ≤ wt i + grB dr wt gn r (upF rm (dr i) (rm (dr i) - 1)) kn := by
        intro y hy hw hi hd
        have := grB_ub r (upF rm (dr i) (rm (dr i) - 1)) kn (L.erase y) hs2 (hn.erase y) (by rw [List.length_erase_of_mem hy]; omega) (fun x hx => by
          obtain ⟨z1, z2⟩ := (List.Nodup.mem_erase_iff hn).mp hx
          refine ⟨?_, (hm x z2).2⟩
          rcases List.mem_cons.mp (hm x z2).1 with z | z
          · exact absurd (z.trans (hi x z2 z).symm) z1
          · exact z) (fun k => by
          have h1 := lsm_erase (cwD dr k) hy
          have h2 := hr k
          by_cases e : k = dr i
          · subst e
            rw [upF_e]
            by_cases e2 : lsm (cwD dr (dr i)) L = 0
            · omega
            · rw [show cwD dr (dr i) y = 1 from if_pos (hd e2)] at h1
              omega
          · rw [upF_n e]
            omega)
        rw [lsm_erase wt hy]
        omega
      by_cases c3 : i ∈ L
      · exact fin i c3 (Nat.le_refl _) (fun _ _ _ => rfl) (fun _ => rfl)
      · have hle : ∀ y, y ∈ L → wt y ≤ wt i := fun y hy => by
          rcases List.mem_cons.mp (hm y hy).1 with z | z
          · subst z; exact absurd hy c3
          · exact hs1 y z
        by_cases c4 : lsm (cwD dr (dr i)) L = 0
        · cases L with
          | nil => exact Nat.zero_le _
          | cons y t => exact fin y (List.mem_cons_self ..) (hle y (List.mem_cons_self ..)) (fun x hx e => absurd (e ▸ hx) c3) (fun e => absurd c4 e)
        · obtain ⟨y, hy, e⟩ := lsm_pos c4
          have e2 : dr y = dr i := by
            by_cases z : dr y = dr i
            · exact z
            · exact absurd (if_neg z) e
          exact fin y hy (hle y hy) (fun x hx e => absurd (e ▸ hx) c3) (fun _ => e2)
/-- at one door, as many as there is room -/
theorem ct_room {Q : Nat → Nat} {a m k L c : Nat} (hL : 1 ≤ L) (gap : ∀ i j, a ≤ i → i < j → j < m → Q i < N → Q j < N → dr (Q i) = k → dr (Q j) = k → L ≤ j - i) (hc : ∀ j, a ≤ j → j < m → Q j < N → dr (Q j) = k → c ≤ j) : ∀ n, a + n ≤ m → lsm (cwD dr k) (itm N Q a n) ≤ if a + n ≤ c then 0 else (a + n - 1 - c) / L + 1 := by
  intro n
  induction n using Nat.strongRecOn with
  | ind n ih =>
  intro hn
  cases n with
  | zero => exact Nat.zero_le _
  | succ n =>
    have no : ¬ (Q (a + n) < N ∧ dr (Q (a + n)) = k) → lsm (cwD dr k) (itm N Q a (n + 1)) ≤ if a + (n + 1) ≤ c then 0 else (a + (n + 1) - 1 - c) / L + 1 := by
      intro z
      have e : lsm (cwD dr k) (itm N Q a (n + 1)) = lsm (cwD dr k) (itm N Q a n) := by
        rw [itm]
        split
        · rename_i y
          rw [lsm, cwD, if_neg (fun w => z ⟨y, w⟩), Nat.zero_add]
        · rfl
      rw [e]
      have h1 := ih n (by omega) (by omega)
      by_cases w : a + (n + 1) ≤ c
      · rw [if_pos (by omega)] at h1
        rw [if_pos w]; exact h1
      · rw [if_neg w]
        by_cases w2 : a + n ≤ c
        · rw [if_pos w2] at h1; generalize (a + (n + 1) - 1 - c) / L = u; omega
        · rw [if_neg w2] at h1
          have : (a + n - 1 - c) / L ≤ (a + (n + 1) - 1 - c) / L := Nat.div_le_div_right (by omega)
          omega
    by_cases y : Q (a + n) < N ∧ dr (Q (a + n)) = k
    · have hcl := hc (a + n) (by omega) (by omega) y.1 y.2
      have tr : ∀ t, n + 1 - L + t ≤ n → lsm (cwD dr k) (itm N Q a (n + 1 - L + t)) = lsm (cwD dr k) (itm N Q a (n + 1 - L)) := by
        intro t
        induction t with
        | zero => intro _; rfl
        | succ t iht =>
          intro ht
          rw [← iht (by omega), ← Nat.add_assoc, itm]
          split
          · rename_i z
            rw [lsm, cwD, if_neg (fun w => by
              have := gap (a + (n + 1 - L + t)) (a + n) (by omega) (by omega) (by omega) z y.1 w y.2
              omega), Nat.zero_add]
          · rfl
      have e0 : lsm (cwD dr k) (itm N Q a n) = lsm (cwD dr k) (itm N Q a (n + 1 - L)) := by
        have := tr (n - (n + 1 - L)) (by omega)
        rwa [show n + 1 - L + (n - (n + 1 - L)) = n by omega] at this
      rw [itm, if_pos y.1, lsm, cwD, if_pos y.2, e0, if_neg (by omega)]
      by_cases w : n + 1 - L = 0
      · rw [w, itm, lsm]; generalize (a + (n + 1) - 1 - c) / L = u; omega
      · have h1 := ih (n + 1 - L) (by omega) (by omega)
        by_cases w2 : a + (n + 1 - L) ≤ c
        · rw [if_pos w2] at h1; generalize (a + (n + 1) - 1 - c) / L = u; omega
        · rw [if_neg w2] at h1
          have e : a + (n + 1) - 1 - c = (a + (n + 1 - L) - 1 - c) + L := by omega
          rw [e, Nat.add_div_right _ (by omega)]
          omega
    · exact no y
end Greedy
section Exists
variable {V : (Nat → Nat) → Prop} {f : (Nat → Nat) → Nat} {night N : Nat}
theorem SIc.ex (he : extP V f night) (hN : ∀ P' k, V P' → k < night → P' k ≤ N) : ∀ n a, a + n = night → ∀ (C : (Nat → Nat) → Prop) (P : Nat → Nat) (o : Option (Nat → Nat)), SIc V f night C o → Ahd night C a P → ∃ o', SIc V f night (fun P' => C P' ∨ AgP a P P') o'
  | 0, a, e, C, P, o, h, ha => by
    have : a = night := by omega
    subst this
    by_cases hv : V P
    · cases o with
      | none => exact ⟨_, h.leaf0 he hv⟩
      | some B =>
        by_cases c : f B < f P
        · exact ⟨_, h.leaf1 he hv c⟩
        · exact ⟨_, h.leaf2 he ha (by omega)⟩
    · exact ⟨o, h.map (fun P' hv' => ⟨Or.inl, fun z => z.elim id (fun z => absurd ((he P' P (fun k hk => z k hk)).1 hv') hv)⟩)⟩
  | n + 1, a, e, C, P, o, h, ha => by
    have lp : ∀ i, ∃ o', SIc V f night (Cup C a P i) o' := by
      intro i
      induction i with
      | zero => exact ⟨o, h.zero⟩
      | succ i ih =>
        obtain ⟨o1, h1⟩ := ih
        obtain ⟨o2, h2⟩ := SIc.ex he hN n (a + 1) (by omega) _ (upF P a i) o1 h1 (ha.up (by omega) i)
        exact ⟨o2, h2.next⟩
    obtain ⟨o1, h1⟩ := lp (N + 1)
    exact ⟨o1, h1.all (fun P' hv => hN P' a hv (by omega))⟩
theorem Ahd.nil (P : Nat → Nat) : Ahd night (fun _ => False) 0 P := fun _ hB => hB.elim
theorem SIc.nil : SIc V f night (fun _ => False) none := fun _ _ hc => hc
theorem SIc.best {P : Nat → Nat} {o : Option (Nat → Nat)} (h : SIc V f night (fun P' => False ∨ AgP 0 P P') o) (hex : ∃ P', V P') : ∃ B, o = some B ∧ BstP V f night B := by
  have hc : ∀ P', False ∨ AgP 0 P P' := fun P' => Or.inr (fun j hj => by omega)
  cases o with
  | none => obtain ⟨P', hv⟩ := hex; exact absurd (hc P') (h P' hv)
  | some B => exact ⟨B, rfl, h.1, fun P' hv => h.2.2 P' hv (hc P')⟩
theorem ex_best (he : extP V f night) (hN : ∀ P' k, V P' → k < night → P' k ≤ N) (hex : ∃ P', V P') : ∃ B, BstP V f night B := by
  obtain ⟨o, h⟩ := SIc.ex he hN night 0 (by omega) (fun _ => False) (fun _ => 0) none SIc.nil (Ahd.nil _)
  obtain ⟨B, -, hB⟩ := h.best hex
  exact ⟨B, hB⟩
end Exists
section Emb
variable {N : Nat} {dr wt lt : Nat → Nat}
/-- what the class finds is the best of all -/
theorem vldR_best {night : Nat} {B : Nat → Nat} (hB : BstP (fun P => vldR N dr wt lt P night) (fun P => wsm N wt P night) night B) : BstP (fun P => vldP N dr (fun _ => true) lt P night) (fun P => wsm N wt P night) night B := by
  obtain ⟨B2, h2⟩ := ex_best (V := fun P => vldP N dr (fun _ => true) lt P night) (f := fun P => wsm N wt P night) (N := N) (vldP_ext N dr wt (fun _ => true) lt night) (fun P' k hv hk => by rcases hv k hk with z | z <;> omega) ⟨fun _ => N, fun k hk => Or.inl rfl⟩
  have hr := best_vldR N dr wt lt h2
  have e := BstP.same h2 hB hr (vldR_vld N dr wt lt hB.1)
  refine ⟨vldR_vld N dr wt lt hB.1, fun P' hv => ?_⟩
  have e2 : wsm N wt B2 night = wsm N wt B night := wsm_cong N wt night e
  rcases h2.2 P' hv with z | ⟨z, y | y⟩
  · refine Or.inl ?_
    dsimp only at z ⊢
    omega
  · refine Or.inr ⟨by dsimp only at z ⊢; omega, Or.inl (fun k hk => (e k hk).symm.trans (y k hk))⟩
  · refine Or.inr ⟨by dsimp only at z ⊢; omega, Or.inr ?_⟩
    obtain ⟨k, hk, y1, y2⟩ := y
    exact ⟨k, hk, fun j hj => (e j (by omega)).symm.trans (y1 j hj), by rw [← e k hk]; exact y2⟩
/-- items of a part of the row -/
def EMB (N M : Nat) (ok : Nat → Bool) (e : Nat → Nat) : Prop := e N = M ∧ (∀ i j, i < j → j ≤ N → e i < e j) ∧ (∀ i, i < N → ok (e i) = true) ∧ ∀ m, m < M → ok m = true → ∃ i, i < N ∧ e i = m
variable {M : Nat} {ok : Nat → Bool} {e dr2 wt2 lt2 : Nat → Nat}
theorem EMB.top (E : EMB N M ok e) : e N = M := E.1
theorem EMB.mono (E : EMB N M ok e) : ∀ i j, i < j → j ≤ N → e i < e j := E.2.1
theorem EMB.okE (E : EMB N M ok e) : ∀ i, i < N → ok (e i) = true := E.2.2.1
theorem EMB.onto (E : EMB N M ok e) : ∀ m, m < M → ok m = true → ∃ i, i < N ∧ e i = m := E.2.2.2
theorem EMB.inj (E : EMB N M ok e) {i j : Nat} (hi : i ≤ N) (hj : j ≤ N) (h : e i = e j) : i = j := by
  rcases Nat.lt_trichotomy i j with z | z | z
  · have := E.mono i j z hj; omega
  · exact z
  · have := E.mono j i z hi; omega
theorem EMB.ltE (E : EMB N M ok e) {i : Nat} (hi : i ≤ N) : (e i < M ↔ i < N) ∧ (e i = M ↔ i = N) := by
  rcases Nat.lt_or_ge i N with z | z
  · have := E.mono i N z (Nat.le_refl _)
    rw [E.top] at this
    omega
  · have : i = N := by omega
    subst this
    rw [E.top]
    omega
theorem EMB.lt_iff (E : EMB N M ok e) {i j : Nat} (hi : i ≤ N) (hj : j ≤ N) : e i < e j ↔ i < j := by
  rcases Nat.lt_trichotomy i j with z | z | z
  · have := E.mono i j z hj; omega
  · subst z; omega
  · have := E.mono j i z hi; omega
theorem EMB.vld (E : EMB N M ok e) (hd : ∀ i, i < N → dr2 (e i) = dr i) (hl : ∀ i, i < N → lt2 (dr i) = lt (dr i)) {P : Nat → Nat} {n : Nat} (hb : ∀ k, k < n → P k ≤ N) : vldP N dr (fun _ => true) lt P n ↔ vldP M dr2 ok lt2 (fun k => e (P k)) n := by
  constructor
  · intro hv k hk
    rcases hv k hk with z | ⟨z1, -, z2⟩
    · exact Or.inl ((E.ltE (hb k hk)).2.mpr z)
    · refine Or.inr ⟨(E.ltE (hb k hk)).1.mpr z1, E.okE _ z1, fun j hj => ?_⟩
      obtain ⟨y1, y2⟩ := z2 j hj
      have hbj := hb j (by omega)
      refine ⟨fun w => y1 (E.inj hbj (by omega) w), ?_⟩
      rcases Nat.lt_or_ge (P j) N with c | c
      · show e (P j) = M ∨ dr2 (e (P j)) ≠ dr2 (e (P k)) ∨ lt2 (dr2 (e (P k))) ≤ k - j
        rw [hd _ c, hd _ z1, hl _ z1]
        rcases y2 with y | y
        · omega
        · exact Or.inr y
      · exact Or.inl ((E.ltE hbj).2.mpr (by omega))
  · intro hv k hk
    rcases hv k hk with z | ⟨z1, -, z2⟩
    · exact Or.inl ((E.ltE (hb k hk)).2.mp z)
    · have hk2 := (E.ltE (hb k hk)).1.mp z1
      refine Or.inr ⟨hk2, rfl, fun j hj => ?_⟩
      obtain ⟨y1, y2⟩ := z2 j hj
      have hbj := hb j (by omega)
      refine ⟨fun w => y1 (by show e (P j) = e (P k); rw [w]), ?_⟩
      rcases Nat.lt_or_ge (P j) N with c | c
      · replace y2 : e (P j) = M ∨ dr2 (e (P j)) ≠ dr2 (e (P k)) ∨ lt2 (dr2 (e (P k))) ≤ k - j := y2
        rw [hd _ c, hd _ hk2, hl _ hk2] at y2
        rcases y2 with y | y
        · have := (E.ltE hbj).2.mp y; omega
        · exact Or.inr y
      · exact Or.inl (by omega)
theorem EMB.wsmE (E : EMB N M ok e) (hw : ∀ i, i < N → wt2 (e i) = wt i) {P : Nat → Nat} : ∀ n, (∀ k, k < n → P k ≤ N) → wsm M wt2 (fun k => e (P k)) n = wsm N wt P n
  | 0, _ => rfl
  | n + 1, hb => by
    rw [wsm, wsm, EMB.wsmE E hw n (fun k hk => hb k (by omega))]
    have h1 := E.ltE (hb n (by omega))
    by_cases c : P n < N
    · rw [if_pos c, if_pos (h1.1.mpr c), hw _ c]
    · rw [if_neg c, if_neg (fun z => c (h1.1.mp z))]
/-- the best of the part is the best of all that may -/
theorem EMB.best (E : EMB N M ok e) (hd : ∀ i, i < N → dr2 (e i) = dr i) (hl : ∀ i, i < N → lt2 (dr i) = lt (dr i)) (hw : ∀ i, i < N → wt2 (e i) = wt i) {night : Nat} {B : Nat → Nat} (hB : BstP (fun P => vldP N dr (fun _ => true) lt P night) (fun P => wsm N wt P night) night B) : BstP (fun P => vldP M dr2 ok lt2 P night) (fun P => wsm M wt2 P night) night (fun k => e (B k)) := by
  have bnd : ∀ P, vldP N dr (fun _ => true) lt P night → ∀ k, k < night → P k ≤ N := fun P hv k hk => by rcases hv k hk with z | z <;> omega
  refine ⟨(E.vld hd hl (bnd B hB.1)).mp hB.1, fun P' hv => ?_⟩
  have ex : ∀ k, ∃ i, i ≤ N ∧ (k < night → e i = P' k) := fun k => by
    by_cases hk : k < night
    · rcases hv k hk with z | ⟨z1, z2, -⟩
      · exact ⟨N, Nat.le_refl _, fun _ => by rw [E.top, z]⟩
      · obtain ⟨i, h1, h2⟩ := E.onto _ z1 z2
        exact ⟨i, by omega, fun _ => h2⟩
    · exact ⟨0, Nat.zero_le _, fun z => absurd z hk⟩
  have hP2 : ∀ k, (Classical.choose (ex k)) ≤ N ∧ (k < night → e (Classical.choose (ex k)) = P' k) := fun k => Classical.choose_spec (ex k)
  generalize hQ : (fun k => Classical.choose (ex k)) = P2
  have hP : ∀ k, P2 k ≤ N ∧ (k < night → e (P2 k) = P' k) := fun k => by rw [← hQ]; exact hP2 k
  have v2 : vldP N dr (fun _ => true) lt P2 night := (E.vld hd hl (fun k hk => (hP k).1)).mpr (vldP_cong M dr2 ok lt2 (fun k hk => ((hP k).2 hk).symm) hv)
  have w2 : wsm M wt2 P' night = wsm N wt P2 night := by
    rw [← E.wsmE hw night (fun k hk => (hP k).1)]
    exact wsm_cong M wt2 night (fun k hk => ((hP k).2 hk).symm)
  have wB : wsm M wt2 (fun k => e (B k)) night = wsm N wt B night := E.wsmE hw night (bnd B hB.1)
  rcases hB.2 P2 v2 with z | ⟨z, y | y⟩
  · exact Or.inl (by show wsm M wt2 P' night < wsm M wt2 (fun k => e (B k)) night; rw [w2, wB]; exact z)
  · exact Or.inr ⟨by show wsm M wt2 P' night = wsm M wt2 (fun k => e (B k)) night; rw [w2, wB]; exact z, Or.inl (fun k hk => by show e (B k) = P' k; rw [y k hk, (hP k).2 hk])⟩
  · refine Or.inr ⟨by show wsm M wt2 P' night = wsm M wt2 (fun k => e (B k)) night; rw [w2, wB]; exact z, Or.inr ?_⟩
    obtain ⟨k, hk, y1, y2⟩ := y
    refine ⟨k, hk, fun j hj => ?_, ?_⟩
    · show e (B j) = P' j
      rw [y1 j hj, (hP j).2 (by omega)]
    · show e (B k) < P' k
      rw [← (hP k).2 hk]
      exact (E.lt_iff (bnd B hB.1 k hk) (hP k).1).mpr y2
theorem emb_filter (f : Nat → Bool) : ∀ (L : List Nat), ∃ e, EMB (L.filter f).length L.length (fun i => f (gN L i)) e ∧ ∀ i, i < (L.filter f).length → gN L (e i) = gN (L.filter f) i
  | [] => ⟨fun _ => 0, ⟨rfl, fun i j h1 h2 => by simp at h2; omega, fun i hi => by simp at hi, fun m hm => by simp at hm⟩, fun i hi => by simp at hi⟩
  | x :: r => by
    obtain ⟨e, E, h⟩ := emb_filter f r
    by_cases c : f x = true
    · rw [List.filter_cons_of_pos c]
      refine ⟨fun i => match i with | 0 => 0 | i + 1 => e i + 1, ⟨?_, ?_, ?_, ?_⟩, ?_⟩
      · show e _ + 1 = _
        rw [E.top, List.length_cons]
      · intro i j hij hj
        rw [List.length_cons] at hj
        cases j with
        | zero => omega
        | succ j =>
          cases i with
          | zero => show 0 < e j + 1; omega
          | succ i =>
            show e i + 1 < e j + 1
            have := E.mono i j (by omega) (by omega)
            omega
      · intro i hi
        rw [List.length_cons] at hi
        cases i with
        | zero => exact c
        | succ i => exact E.okE i (by omega)
      · intro m hm hf
        rw [List.length_cons] at hm
        cases m with
        | zero => exact ⟨0, by rw [List.length_cons]; omega, rfl⟩
        | succ m =>
          obtain ⟨i, h1, h2⟩ := E.onto m (by omega) hf
          exact ⟨i + 1, by rw [List.length_cons]; omega, by show e i + 1 = m + 1; omega⟩
      · intro i hi
        rw [List.length_cons] at hi
        cases i with
        | zero => rfl
        | succ i => exact h i (by omega)
    · rw [List.filter_cons_of_neg c]
      refine ⟨fun i => e i + 1, ⟨?_, ?_, ?_, ?_⟩, ?_⟩
      · show e _ + 1 = _
        rw [E.top, List.length_cons]
      · intro i j hij hj
        have := E.mono i j hij hj
        show e i + 1 < e j + 1
        omega
      · intro i hi
        exact E.okE i hi
      · intro m hm hf
        rw [List.length_cons] at hm
        cases m with
        | zero => exact absurd hf c
        | succ m =>
          obtain ⟨i, h1, h2⟩ := E.onto m (by omega) hf
          exact ⟨i, h1, by show e i + 1 = m + 1; omega⟩
      · intro i hi
        exact h i hi
end Emb

