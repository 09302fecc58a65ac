/-! ===== plans: the class's search, the order of one door, the bound by rooms ===== -/
section Cover
variable (V : (Nat → Nat) → Prop) (f : (Nat → Nat) → Nat) (night : Nat)
/-- what is covered so far, and the best of it -/
def SIc (C : (Nat → Nat) → Prop) (o : Option (Nat → Nat)) : Prop := match o with
  | none => ∀ P', V P' → ¬ C P'
  | some B => V B ∧ C B ∧ ∀ P', V P' → C P' → domP f night B P'
def AgP (a : Nat) (P P' : Nat → Nat) : Prop := ∀ j, j < a → P' j = P j
/-- all that is covered lies ahead of what goes on so -/
def Ahd (C : (Nat → Nat) → Prop) (a : Nat) (P : Nat → Nat) : Prop := ∀ B, C B → ∀ P', AgP a P P' → lxP night B P'
variable {V f night}
theorem SIc.map {C D : (Nat → Nat) → Prop} {o : Option (Nat → Nat)} (h : SIc V f night C o) (h1 : ∀ P', V P' → (C P' ↔ D P')) : SIc V f night D o := by
  cases o with
  | none => exact fun P' hv hc => h P' hv ((h1 P' hv).mpr hc)
  | some B => exact ⟨h.1, (h1 B h.1).mp h.2.1, fun P' hv hc => h.2.2 P' hv ((h1 P' hv).mpr hc)⟩
theorem SIc.prune {C : (Nat → Nat) → Prop} {a : Nat} {P B : Nat → Nat} (h : SIc V f night C (some B)) (ha : Ahd night C a P) (hf : ∀ P', V P' → AgP a P P' → f P' ≤ f B) : SIc V f night (fun P' => C P' ∨ AgP a P P') (some B) := by
  refine ⟨h.1, Or.inl h.2.1, fun P' hv hc => ?_⟩
  rcases hc with z | z
  · exact h.2.2 P' hv z
  · have h1 := hf P' hv z
    by_cases c : f P' < f B
    · exact Or.inl c
    · exact Or.inr ⟨by omega, Or.inr (ha B h.2.1 P' z)⟩
theorem SIc.leaf0 {C : (Nat → Nat) → Prop} {P : Nat → Nat} (he : extP V f night) (h : SIc V f night C none) (hv : V P) : SIc V f night (fun P' => C P' ∨ AgP night P P') (some P) := by
  refine ⟨hv, Or.inr (fun _ _ => rfl), fun P' hv' hc => ?_⟩
  rcases hc with z | z
  · exact absurd z (h P' hv')
  · have e : eqP night P P' := fun k hk => (z k hk).symm
    exact Or.inr ⟨(he _ _ e).2.symm, Or.inl e⟩
theorem SIc.leaf1 {C : (Nat → Nat) → Prop} {P B : Nat → Nat} (he : extP V f night) (h : SIc V f night C (some B)) (hv : V P) (hb : f B < f P) : SIc V f night (fun P' => C P' ∨ AgP night P P') (some P) := by
  refine ⟨hv, Or.inr (fun _ _ => rfl), fun P' hv' hc => ?_⟩
  rcases hc with z | z
  · rcases h.2.2 P' hv' z with y | y
    · exact Or.inl (by omega)
    · exact Or.inl (by omega)
  · have e : eqP night P P' := fun k hk => (z k hk).symm
    exact Or.inr ⟨(he _ _ e).2.symm, Or.inl e⟩
theorem SIc.leaf2 {C : (Nat → Nat) → Prop} {P B : Nat → Nat} (he : extP V f night) (h : SIc V f night C (some B)) (ha : Ahd night C night P) (hb : f P ≤ f B) : SIc V f night (fun P' => C P' ∨ AgP night P P') (some B) :=
  h.prune ha (fun P' _ hg => by
    have e : eqP night P P' := fun k hk => (hg k hk).symm
    rw [← (he _ _ e).2]; exact hb)
/-- candidates below i, too -/
def Cup (C : (Nat → Nat) → Prop) (a : Nat) (P : Nat → Nat) (i : Nat) : (Nat → Nat) → Prop := fun P' => C P' ∨ (AgP a P P' ∧ P' a < i)
theorem Ahd.up {C : (Nat → Nat) → Prop} {a : Nat} {P : Nat → Nat} (ha : Ahd night C a P) (hn : a < night) (i : Nat) : Ahd night (Cup C a P i) (a + 1) (upF P a i) := by
  intro B hB P' hg
  have hg' : AgP a P P' := fun j hj => by have := hg j (by omega); rwa [upF_n (by omega)] at this
  have e : P' a = i := by have := hg a (by omega); rwa [upF_e] at this
  rcases hB with z | ⟨z1, z2⟩
  · exact ha B z P' hg'
  · exact ⟨a, hn, fun j hj => (z1 j hj).trans (hg' j hj).symm, by omega⟩
theorem SIc.zero {C : (Nat → Nat) → Prop} {a : Nat} {P : Nat → Nat} {o : Option (Nat → Nat)} (h : SIc V f night C o) : SIc V f night (Cup C a P 0) o := h.map (fun P' _ => ⟨Or.inl, fun z => z.elim id (fun z => absurd z.2 (Nat.not_lt_zero _))⟩)
theorem SIc.next {C : (Nat → Nat) → Prop} {a i : Nat} {P : Nat → Nat} {o : Option (Nat → Nat)} (h : SIc V f night (fun P' => Cup C a P i P' ∨ AgP (a + 1) (upF P a i) P') o) : SIc V f night (Cup C a P (i + 1)) o := by
  refine h.map (fun P' _ => ⟨?_, ?_⟩)
  · rintro ((z | z) | z)
    · exact Or.inl z
    · exact Or.inr ⟨z.1, by omega⟩
    · refine Or.inr ⟨fun j hj => by have := z j (by omega); rwa [upF_n (by omega)] at this, ?_⟩
      have := z a (by omega)
      rw [upF_e] at this
      omega
  · rintro (z | ⟨z1, z2⟩)
    · exact Or.inl (Or.inl z)
    · by_cases c : P' a = i
      · refine Or.inr (fun j hj => ?_)
        by_cases y : j = a
        · subst y; rw [upF_e]; exact c
        · rw [upF_n y]; exact z1 j (by omega)
      · exact Or.inl (Or.inr ⟨z1, by omega⟩)
theorem SIc.skip {C : (Nat → Nat) → Prop} {a i : Nat} {P : Nat → Nat} {o : Option (Nat → Nat)} (h : SIc V f night (Cup C a P i) o) (hs : ∀ P', V P' → AgP a P P' → P' a = i → False) : SIc V f night (Cup C a P (i + 1)) o := by
  refine h.map (fun P' hv => ⟨?_, ?_⟩)
  · rintro (z | z)
    · exact Or.inl z
    · exact Or.inr ⟨z.1, by omega⟩
  · rintro (z | ⟨z1, z2⟩)
    · exact Or.inl z
    · by_cases c : P' a = i
      · exact (hs P' hv z1 c).elim
      · exact Or.inr ⟨z1, by omega⟩
theorem SIc.all {C : (Nat → Nat) → Prop} {a N : Nat} {P : Nat → Nat} {o : Option (Nat → Nat)} (h : SIc V f night (Cup C a P (N + 1)) o) (hN : ∀ P', V P' → P' a ≤ N) : SIc V f night (fun P' => C P' ∨ AgP a P P') o :=
  h.map (fun P' hv => ⟨fun z => z.elim Or.inl (fun z => Or.inr z.1), fun z => z.elim Or.inl (fun z => Or.inr ⟨z, by have := hN P' hv; omega⟩)⟩)
end Cover
/-! ===== the plans that the class goes through ===== -/
section Rest
variable (N : Nat) (dr wt : Nat → Nat) (lt : Nat → Nat)
/-- at its knock an item comes behind those of its door, far enough, and none ahead of it is as good -/
def okR (P : Nat → Nat) (k : Nat) : Prop := (∀ j, j < k → P j < N → dr (P j) = dr (P k) → P j < P k ∧ lt (dr (P k)) ≤ k - j) ∧ ∀ x, x < P k → dr x = dr (P k) → (∀ j, j < k → P j < N → dr (P j) = dr x → P j < x) → wt x < wt (P k)
def vldR (P : Nat → Nat) (n : Nat) : Prop := ∀ k, k < n → P k = N ∨ (P k < N ∧ okR N dr wt lt P k)
theorem okR_cong {P Q : Nat → Nat} {k : Nat} (h : ∀ j, j ≤ k → P j = Q j) (hp : okR N dr wt lt P k) : okR N dr wt lt Q k := by
  obtain ⟨h1, h2⟩ := hp
  refine ⟨fun j hj a b => ?_, fun x hx a b => ?_⟩
  · rw [← h j (by omega)] at a b ⊢
    rw [← h k (by omega)] at b ⊢
    exact h1 j hj a b
  · rw [← h k (by omega)] at hx a ⊢
    exact h2 x hx a (fun j hj c d => by
      rw [h j (by omega)] at c d ⊢
      exact b j hj c d)
theorem vldR_cong {P Q : Nat → Nat} {n : Nat} (h : ∀ k, k < n → P k = Q k) (hv : vldR N dr wt lt P n) : vldR N dr wt lt Q n := by
  intro k hk
  rcases hv k hk with a | ⟨a, b⟩
  · exact Or.inl ((h k hk).symm.trans a)
  · exact Or.inr ⟨by rw [← h k hk]; exact a, okR_cong N dr wt lt (fun j hj => h j (by omega)) b⟩
theorem vldR_ext (night : Nat) : extP (fun P => vldR N dr wt lt P night) (fun P => wsm N wt P night) night := fun P P' e => ⟨fun hv => vldR_cong N dr wt lt e hv, wsm_cong N wt night e⟩
theorem vldR_vld {P : Nat → Nat} {n : Nat} (hv : vldR N dr wt lt P n) : vldP N dr (fun _ => true) lt P n := by
  intro k hk
  rcases hv k hk with a | ⟨a, b, c⟩
  · exact Or.inl a
  · refine Or.inr ⟨a, rfl, fun j hj => ?_⟩
    rcases hv j (by omega) with z | ⟨z, -⟩
    · exact ⟨by omega, Or.inl z⟩
    · by_cases y : dr (P j) = dr (P k)
      · have := b j hj z y
        exact ⟨by omega, Or.inr (Or.inr this.2)⟩
      · exact ⟨fun w => y (by rw [w]), Or.inr (Or.inl y)⟩
theorem wsm_upF {P : Nat → Nat} {k v : Nat} : ∀ n, k < n → wsm N wt (upF P k v) n + (if P k < N then wt (P k) else 0) = wsm N wt P n + (if v < N then wt v else 0)
  | 0, h => by omega
  | n + 1, h => by
    rw [wsm, wsm]
    by_cases c : k = n
    · subst c
      rw [wsm_cong N wt k (fun j hj => upF_n (by omega) : ∀ j, j < k → upF P k v j = P j), upF_e]
      omega
    · have := wsm_upF (P := P) (k := k) (v := v) n (by omega)
      rw [upF_n (P := P) (a := k) (v := v) (k := n) (by omega)]
      omega
/-- the best of all plans is one that the class goes through -/
theorem best_vldR {night : Nat} {B : Nat → Nat} (hB : BstP (fun P => vldP N dr (fun _ => true) lt P night) (fun P => wsm N wt P night) night B) : vldR N dr wt lt B night := by
  obtain ⟨hv, hd⟩ := hB
  -- of one door they come by their numbers
  have inc : ∀ j k, j < k → k < night → B j < N → B k < N → dr (B j) = dr (B k) → B j < B k := by
    intro j k hjk hk hj hkN he
    rcases Nat.lt_trichotomy (B j) (B k) with z | z | z
    · exact z
    · exfalso
      rcases hv k hk with y | ⟨y, -, y2⟩
      · omega
      · exact (y2 j hjk).1 z
    · exfalso
      -- the two change places
      have hv2 : vldP N dr (fun _ => true) lt (upF (upF B j (B k)) k (B j)) night := by
        intro m hm
        have val : ∀ i, upF (upF B j (B k)) k (B j) i = if i = k then B j else if i = j then B k else B i := fun i => rfl
        have dre : ∀ i, dr (upF (upF B j (B k)) k (B j) i) = dr (B i) := fun i => by
          rw [val]; split
          · rename_i e; rw [e]; exact he
          · split
            · rename_i e; rw [e]; exact he.symm
            · rfl
        have ltN : ∀ i, (upF (upF B j (B k)) k (B j) i < N ↔ B i < N) ∧ (upF (upF B j (B k)) k (B j) i = N ↔ B i = N) := fun i => by
          rw [val]; split
          · rename_i e; rw [e]; omega
          · split
            · rename_i e; rw [e]; omega
            · exact ⟨Iff.rfl, Iff.rfl⟩
        rcases hv m hm with y | ⟨y, -, y2⟩
        · exact Or.inl ((ltN m).2.mpr y)
        · refine Or.inr ⟨(ltN m).1.mpr y, rfl, fun i hi => ⟨fun w => ?_, ?_⟩⟩
          · have hne : ∀ a b, a < b → b < night → B a < N → B b < N → B a ≠ B b := fun a b hab hb _ hbN => by
              rcases hv b hb with y | ⟨-, -, y3⟩
              · omega
              · exact (y3 a hab).1
            have hiN : B i < N := by
              have := (ltN i).1.mp (by rw [w]; exact (ltN m).1.mpr y)
              exact this
            rw [val, val] at w
            by_cases e1 : i = k
            · subst e1
              rw [if_pos rfl, if_neg (by omega)] at w
              by_cases e2 : m = j
              · omega
              · rw [if_neg e2] at w
                exact hne j m (by omega) hm hj y w
            · rw [if_neg e1] at w
              by_cases e2 : i = j
              · subst e2
                rw [if_pos rfl] at w
                by_cases e3 : m = k
                · rw [if_pos e3] at w; omega
                · rw [if_neg e3, if_neg (by omega)] at w
                  rcases Nat.lt_trichotomy m k with z1 | z1 | z1
                  · exact hne m k z1 hk y hkN w.symm
                  · omega
                  · exact hne k m z1 hm hkN y w
              · rw [if_neg e2] at w
                by_cases e3 : m = k
                · rw [if_pos e3] at w
                  rcases Nat.lt_trichotomy i j with z1 | z1 | z1
                  · exact hne i j z1 (by omega) hiN hj w
                  · omega
                  · exact hne j i z1 (by omega) hj hiN w.symm
                · rw [if_neg e3] at w
                  by_cases e4 : m = j
                  · rw [if_pos e4] at w
                    rcases Nat.lt_trichotomy i k with z1 | z1 | z1
                    · exact hne i k z1 hk hiN hkN w
                    · omega
                    · omega
                  · rw [if_neg e4] at w
                    exact hne i m hi hm hiN y w
          · rw [dre, dre]
            rcases (y2 i hi).2 with a | a
            · exact Or.inl ((ltN i).2.mpr a)
            · exact Or.inr a
      have hs : wsm N wt (upF (upF B j (B k)) k (B j)) night = wsm N wt B night := by
        have h1 := wsm_upF N wt (P := B) (k := j) (v := B k) night (by omega)
        have h2 := wsm_upF N wt (P := upF B j (B k)) (k := k) (v := B j) night hk
        rw [upF_n (P := B) (a := j) (v := B k) (k := k) (by omega)] at h2
        rw [if_pos hj, if_pos hkN] at h1
        rw [if_pos hj, if_pos hkN] at h2
        omega
      have hl : lxP night (upF (upF B j (B k)) k (B j)) B := ⟨j, by omega, fun i hi => by rw [upF_n (by omega), upF_n (by omega)], by rw [upF_n (by omega), upF_e]; exact z⟩
      rcases hd _ hv2 with a | ⟨-, a | a⟩
      · dsimp only at a; omega
      · exact lxP_ne hl a
      · exact lxP_asym hl a
  intro k hk
  rcases hv k hk with a | ⟨a, -, b⟩
  · exact Or.inl a
  · refine Or.inr ⟨a, fun j hj c e => ?_, fun x hx he hfree => ?_⟩
    · refine ⟨inc j k hj hk c a e, ?_⟩
      rcases (b j hj).2 with z | z | z
      · omega
      · exact absurd e z
      · exact z
    · -- a better one ahead would be taken
      refine Nat.lt_of_not_le (fun hw => ?_)
      have hxu : ∀ i, i < night → B i ≠ x := fun i hi w => by
        rcases Nat.lt_trichotomy i k with z | z | z
        · have := hfree i z (by omega) (by rw [w])
          omega
        · subst z; omega
        · have := inc k i z hi a (by omega) (by rw [w]; exact he.symm)
          omega
      have hv2 : vldP N dr (fun _ => true) lt (upF B k x) night := by
        intro m hm
        have dre : ∀ i, dr (upF B k x i) = dr (B i) := fun i => by
          unfold upF; split
          · rename_i e; rw [e]; exact he
          · rfl
        by_cases e1 : m = k
        · subst e1
          refine Or.inr ⟨by rw [upF_e]; omega, rfl, fun i hi => ?_⟩
          rw [dre, dre, upF_e, upF_n (by omega)]
          refine ⟨hxu i (by omega), ?_⟩
          exact (b i hi).2
        · rcases hv m hm with y | ⟨y, -, y2⟩
          · exact Or.inl (by rw [upF_n e1]; exact y)
          · refine Or.inr ⟨by rw [upF_n e1]; exact y, rfl, fun i hi => ?_⟩
            rw [dre, dre, upF_n e1]
            by_cases e2 : i = k
            · subst e2
              rw [upF_e]
              refine ⟨fun w => hxu m hm w.symm, ?_⟩
              rcases (y2 i hi).2 with z | z
              · omega
              · exact Or.inr z
            · rw [upF_n e2]
              exact y2 i hi
      have hs := wsm_upF N wt (P := B) (k := k) (v := x) night hk
      rw [if_pos a, if_pos (by omega)] at hs
      have hl : lxP night (upF B k x) B := ⟨k, hk, fun i hi => upF_n (by omega), by rw [upF_e]; exact hx⟩
      rcases hd _ hv2 with z | ⟨-, z | z⟩
      · dsimp only at z; omega
      · exact lxP_ne hl z
      · exact lxP_asym hl z
end Rest

