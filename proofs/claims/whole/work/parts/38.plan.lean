/-! ===== plans: a search that leaves out what can't be better, in the order of the plans ===== -/
def upF (P : Nat → Nat) (a v : Nat) : Nat → Nat := fun k => if k = a then v else P k
theorem upF_e (P : Nat → Nat) (a v : Nat) : upF P a v a = v := if_pos rfl
theorem upF_n {P : Nat → Nat} {a v k : Nat} (h : ¬ k = a) : upF P a v k = P k := if_neg h
section Search
variable (V : (Nat → Nat) → Prop) (f : (Nat → Nat) → Nat) (night N : Nat)
def lxP (P P' : Nat → Nat) : Prop := ∃ k, k < night ∧ (∀ j, j < k → P j = P' j) ∧ P k < P' k
def eqP (P P' : Nat → Nat) : Prop := ∀ k, k < night → P k = P' k
def CovP (a : Nat) (P : Nat → Nat) (n : Nat) (P' : Nat → Nat) : Prop := (∃ k, k < a ∧ (∀ j, j < k → P' j = P j) ∧ P' k < P k) ∨ ((∀ j, j < a → P' j = P j) ∧ P' a < n)
def domP (B P' : Nat → Nat) : Prop := f P' < f B ∨ (f P' = f B ∧ (eqP night B P' ∨ lxP night B P'))
def BstP (B : Nat → Nat) : Prop := V B ∧ ∀ P', V P' → domP f night B P'
def SIp (a : Nat) (P : Nat → Nat) (n : Nat) (o : Option (Nat → Nat)) : Prop := match o with
  | none => ∀ P', V P' → ¬ CovP a P n P'
  | some B => V B ∧ CovP a P n B ∧ ∀ P', V P' → CovP a P n P' → domP f night B P'
/-- only what lies below the night counts -/
def extP : Prop := ∀ P P', eqP night P P' → (V P → V P') ∧ f P = f P'
theorem CovP_cong {a n : Nat} {P Q P' : Nat → Nat} (h : ∀ j, j < a → P j = Q j) : CovP a P n P' → CovP a Q n P' := by
  rintro (⟨k, hk, h1, h2⟩ | ⟨h1, h2⟩)
  · exact Or.inl ⟨k, hk, fun j hj => (h1 j hj).trans (h j (by omega)), by rw [← h k hk]; exact h2⟩
  · exact Or.inr ⟨fun j hj => (h1 j hj).trans (h j hj), h2⟩
variable {V f night N}
theorem SIp.map {a n a' n' : Nat} {P P2 : Nat → Nat} {o : Option (Nat → Nat)} (h : SIp V f night a P n o) (h1 : ∀ P', V P' → (CovP a P n P' ↔ CovP a' P2 n' P')) : SIp V f night a' P2 n' o := by
  cases o with
  | none => exact fun P' hv hc => h P' hv ((h1 P' hv).mpr hc)
  | some B => exact ⟨h.1, (h1 B h.1).mp h.2.1, fun P' hv hc => h.2.2 P' hv ((h1 P' hv).mpr hc)⟩
theorem SIp.cong {a n : Nat} {P Q : Nat → Nat} {o : Option (Nat → Nat)} (h : SIp V f night a P n o) (e : ∀ j, j < a → P j = Q j) : SIp V f night a Q n o :=
  h.map (fun _ _ => ⟨CovP_cong e, CovP_cong (fun j hj => (e j hj).symm)⟩)
theorem SIp.down {a v : Nat} {P : Nat → Nat} {o : Option (Nat → Nat)} (h : SIp V f night a P v o) : SIp V f night (a + 1) (upF P a v) 0 o := by
  refine h.map (fun P' _ => ⟨?_, ?_⟩)
  · rintro (⟨k, hk, h1, h2⟩ | ⟨h1, h2⟩)
    · exact Or.inl ⟨k, by omega, fun j hj => by rw [upF_n (by omega)]; exact h1 j hj, by rw [upF_n (by omega)]; exact h2⟩
    · exact Or.inl ⟨a, by omega, fun j hj => by rw [upF_n (by omega)]; exact h1 j hj, by rw [upF_e]; exact h2⟩
  · rintro (⟨k, hk, h1, h2⟩ | ⟨h1, h2⟩)
    · by_cases c : k = a
      · subst c
        exact Or.inr ⟨fun j hj => by have := h1 j hj; rwa [upF_n (by omega)] at this, by rwa [upF_e] at h2⟩
      · exact Or.inl ⟨k, by omega, fun j hj => by have := h1 j hj; rwa [upF_n (by omega)] at this, by rwa [upF_n c] at h2⟩
    · omega
theorem SIp.up {a : Nat} {P : Nat → Nat} {o : Option (Nat → Nat)} (h : SIp V f night (a + 1) P (N + 1) o) (hN : ∀ P', V P' → P' (a + 1) ≤ N) : SIp V f night a P (P a + 1) o := by
  refine h.map (fun P' hv => ⟨?_, ?_⟩)
  · rintro (⟨k, hk, h1, h2⟩ | ⟨h1, h2⟩)
    · by_cases c : k = a
      · subst c
        exact Or.inr ⟨h1, by omega⟩
      · exact Or.inl ⟨k, by omega, h1, h2⟩
    · exact Or.inr ⟨fun j hj => h1 j (by omega), by rw [h1 a (by omega)]; omega⟩
  · rintro (⟨k, hk, h1, h2⟩ | ⟨h1, h2⟩)
    · exact Or.inl ⟨k, by omega, h1, h2⟩
    · by_cases c : P' a = P a
      · exact Or.inr ⟨fun j hj => by
          by_cases z : j = a
          · subst z; exact c
          · exact h1 j (by omega), by have := hN P' hv; omega⟩
      · exact Or.inl ⟨a, by omega, h1, by omega⟩
theorem Cov_s {a v : Nat} {P P' : Nat → Nat} (h : CovP a P (v + 1) P') : CovP a P v P' ∨ ((∀ j, j < a → P' j = P j) ∧ P' a = v) := by
  rcases h with h | ⟨h1, h2⟩
  · exact Or.inl (Or.inl h)
  · by_cases c : P' a = v
    · exact Or.inr ⟨h1, c⟩
    · exact Or.inl (Or.inr ⟨h1, by omega⟩)
theorem Cov_w {a v : Nat} {P P' : Nat → Nat} (h : CovP a P v P') : CovP a P (v + 1) P' := by
  rcases h with h | ⟨h1, h2⟩
  · exact Or.inl h
  · exact Or.inr ⟨h1, by omega⟩
theorem Cov_lt {a v : Nat} {P B P' : Nat → Nat} (ha : a < night) (h : CovP a P v B) (h1 : ∀ j, j < a → P' j = P j) (h2 : P' a = v) : lxP night B P' := by
  rcases h with ⟨k, hk, g1, g2⟩ | ⟨g1, g2⟩
  · exact ⟨k, by omega, fun j hj => (g1 j hj).trans (h1 j (by omega)).symm, by rw [h1 k hk]; exact g2⟩
  · exact ⟨a, ha, fun j hj => (g1 j hj).trans (h1 j hj).symm, by omega⟩
theorem SIp.skip {a v : Nat} {P : Nat → Nat} {o : Option (Nat → Nat)} (h : SIp V f night a P v o) (hs : ∀ P', V P' → (∀ j, j < a → P' j = P j) → P' a = v → False) : SIp V f night a P (v + 1) o :=
  h.map (fun P' hv => ⟨Cov_w, fun hc => (Cov_s hc).elim id (fun z => (hs P' hv z.1 z.2).elim)⟩)
theorem SIp.prune {a v : Nat} {P B : Nat → Nat} (ha : a < night) (h : SIp V f night a P v (some B)) (hs : ∀ P', V P' → (∀ j, j < a → P' j = P j) → P' a = v → f P' ≤ f B) : SIp V f night a P (v + 1) (some B) := by
  refine ⟨h.1, Cov_w h.2.1, fun P' hv hc => ?_⟩
  rcases Cov_s hc with z | z
  · exact h.2.2 P' hv z
  · have := hs P' hv z.1 z.2
    by_cases c : f P' < f B
    · exact Or.inl c
    · exact Or.inr ⟨by omega, Or.inr (Cov_lt ha h.2.1 z.1 z.2)⟩
theorem SIp.leaf0 {a v : Nat} {P : Nat → Nat} (ha : a + 1 = night) (he : extP V f night) (h : SIp V f night a P v none) (hv : V (upF P a v)) : SIp V f night a P (v + 1) (some (upF P a v)) := by
  refine ⟨hv, Or.inr ⟨fun j hj => upF_n (by omega), by rw [upF_e]; omega⟩, fun P' hv' hc => ?_⟩
  rcases Cov_s hc with z | z
  · exact absurd z (h P' hv')
  · have e : eqP night (upF P a v) P' := fun k hk => by
      by_cases c : k = a
      · subst c; rw [upF_e]; exact z.2.symm
      · rw [upF_n c]; exact (z.1 k (by omega)).symm
    exact Or.inr ⟨(he _ _ e).2.symm, Or.inl e⟩
theorem SIp.leaf1 {a v : Nat} {P B : Nat → Nat} (ha : a + 1 = night) (he : extP V f night) (h : SIp V f night a P v (some B)) (hv : V (upF P a v)) (hb : f B < f (upF P a v)) : SIp V f night a P (v + 1) (some (upF P a v)) := by
  refine ⟨hv, Or.inr ⟨fun j hj => upF_n (by omega), by rw [upF_e]; omega⟩, fun P' hv' hc => ?_⟩
  rcases Cov_s hc with z | z
  · rcases h.2.2 P' hv' z with g | g
    · exact Or.inl (by omega)
    · exact Or.inl (by omega)
  · have e : eqP night (upF P a v) P' := fun k hk => by
      by_cases c : k = a
      · subst c; rw [upF_e]; exact z.2.symm
      · rw [upF_n c]; exact (z.1 k (by omega)).symm
    exact Or.inr ⟨(he _ _ e).2.symm, Or.inl e⟩
theorem SIp.leaf2 {a v : Nat} {P B : Nat → Nat} (ha : a + 1 = night) (he : extP V f night) (h : SIp V f night a P v (some B)) (hb : f (upF P a v) ≤ f B) : SIp V f night a P (v + 1) (some B) :=
  h.prune (by omega) (fun P' hv' h1 h2 => by
    have e : eqP night (upF P a v) P' := fun k hk => by
      by_cases c : k = a
      · subst c; rw [upF_e]; exact h2.symm
      · rw [upF_n c]; exact (h1 k (by omega)).symm
    rw [← (he _ _ e).2]; exact hb)
theorem SIp.done {P : Nat → Nat} {o : Option (Nat → Nat)} (h : SIp V f night 0 P (N + 1) o) (hN : ∀ P', V P' → P' 0 ≤ N) (hex : ∃ P', V P') : ∃ B, o = some B ∧ BstP V f night B := by
  have hc : ∀ P', V P' → CovP 0 P (N + 1) P' := fun P' hv => Or.inr ⟨fun j hj => by omega, by have := hN P' hv; omega⟩
  cases o with
  | none => obtain ⟨P', hv⟩ := hex; exact absurd (hc P' hv) (h P' hv)
  | some B => exact ⟨B, rfl, h.1, fun P' hv => h.2.2 P' hv (hc P' hv)⟩
theorem SIp.init (P : Nat → Nat) : SIp V f night 0 P 0 none := by
  rintro P' - (⟨k, hk, -⟩ | ⟨-, h⟩) <;> omega
theorem lxP_asym {P P' : Nat → Nat} (h1 : lxP night P P') (h2 : lxP night P' P) : False := by
  obtain ⟨k, hk, a, b⟩ := h1
  obtain ⟨j, hj, c, d⟩ := h2
  rcases Nat.lt_trichotomy k j with z | z | z
  · have := c k z; omega
  · subst z; omega
  · have := a j z; omega
theorem lxP_ne {P P' : Nat → Nat} (h1 : lxP night P P') (h2 : eqP night P' P) : False := by
  obtain ⟨k, hk, a, b⟩ := h1
  have := h2 k hk
  omega
/-- two best ones, one of them among what the other was chosen from -/
theorem BstP.same {V2 : (Nat → Nat) → Prop} {B B2 : Nat → Nat} (h : BstP V f night B) (h2 : BstP V2 f night B2) (h12 : V2 B) (h21 : V B2) : eqP night B B2 := by
  rcases h.2 B2 h21 with a | ⟨a1, a | a⟩
  · rcases h2.2 B h12 with b | ⟨b1, b | b⟩
    · omega
    · omega
    · omega
  · exact a
  · rcases h2.2 B h12 with b | ⟨b1, b | b⟩
    · omega
    · exact fun k hk => (b k hk).symm
    · exact (lxP_asym a b).elim
end Search
/-! ===== plans of knocks ===== -/
section Knocks
variable (N : Nat) (dr wt : Nat → Nat) (ok : Nat → Bool) (lt : Nat → Nat)
def wsm (P : Nat → Nat) : Nat → Nat
  | 0 => 0
  | k + 1 => wsm P k + (if P k < N then wt (P k) else 0)
def mayP (P : Nat → Nat) (k : Nat) : Prop := ok (P k) = true ∧ ∀ j, j < k → P j ≠ P k ∧ (P j = N ∨ dr (P j) ≠ dr (P k) ∨ lt (dr (P k)) ≤ k - j)
def vldP (P : Nat → Nat) (n : Nat) : Prop := ∀ k, k < n → P k = N ∨ (P k < N ∧ mayP N dr ok lt P k)
theorem wsm_cong {P Q : Nat → Nat} : ∀ n, (∀ k, k < n → P k = Q k) → wsm N wt P n = wsm N wt Q n
  | 0, _ => rfl
  | n + 1, h => by rw [wsm, wsm, wsm_cong n (fun k hk => h k (by omega)), h n (by omega)]
theorem vldP_cong {P Q : Nat → Nat} {n : Nat} (h : ∀ k, k < n → P k = Q k) (hv : vldP N dr ok lt P n) : vldP N dr ok lt Q n := by
  intro k hk
  rcases hv k hk with a | ⟨a, b, c⟩
  · exact Or.inl ((h k hk).symm.trans a)
  · refine Or.inr ⟨by rw [← h k hk]; exact a, by rw [← h k hk]; exact b, fun j hj => ?_⟩
    rw [← h k hk, ← h j (by omega)]
    exact c j hj
theorem vldP_ext (night : Nat) : extP (fun P => vldP N dr ok lt P night) (fun P => wsm N wt P night) night := fun P P' e => ⟨fun hv => vldP_cong N dr ok lt e hv, wsm_cong N wt night e⟩
theorem vldP_s {P : Nat → Nat} {n : Nat} (hv : vldP N dr ok lt P n) (h : P n = N ∨ (P n < N ∧ mayP N dr ok lt P n)) : vldP N dr ok lt P (n + 1) := by
  intro k hk
  by_cases c : k = n
  · subst c; exact h
  · exact hv k (by omega)
/-- the knocks' items from a on -/
def itm (P : Nat → Nat) (a : Nat) : Nat → List Nat
  | 0 => []
  | n + 1 => if P (a + n) < N then P (a + n) :: itm P a n else itm P a n
def lsm : List Nat → Nat
  | [] => 0
  | x :: r => wt x + lsm r
theorem itm_sum {P : Nat → Nat} {a : Nat} : ∀ n, wsm N wt P (a + n) = wsm N wt P a + lsm wt (itm N P a n)
  | 0 => rfl
  | n + 1 => by
    rw [← Nat.add_assoc, wsm, itm_sum n, itm]
    split
    · rw [lsm]; omega
    · omega
theorem itm_len {P : Nat → Nat} {a : Nat} : ∀ n, (itm N P a n).length ≤ n
  | 0 => Nat.le_refl _
  | n + 1 => by
    have := itm_len (P := P) (a := a) n
    rw [itm]
    split
    · rw [List.length_cons]; omega
    · omega
theorem itm_mem {P : Nat → Nat} {a x : Nat} : ∀ n, x ∈ itm N P a n → ∃ k, a ≤ k ∧ k < a + n ∧ x = P k ∧ P k < N
  | 0, h => by cases h
  | n + 1, h => by
    rw [itm] at h
    split at h
    · rcases List.mem_cons.mp h with z | z
      · exact ⟨a + n, by omega, by omega, z, by assumption⟩
      · obtain ⟨k, h1, h2, h3⟩ := itm_mem n z
        exact ⟨k, h1, by omega, h3⟩
    · obtain ⟨k, h1, h2, h3⟩ := itm_mem n h
      exact ⟨k, h1, by omega, h3⟩
theorem itm_nodup {P : Nat → Nat} {a m : Nat} (hv : vldP N dr ok lt P m) : ∀ n, a + n ≤ m → (itm N P a n).Nodup
  | 0, _ => List.nodup_nil
  | n + 1, h => by
    have ih := itm_nodup hv (a := a) n (by omega)
    rw [itm]
    split
    · rename_i hlt
      refine List.nodup_cons.mpr ⟨fun z => ?_, ih⟩
      obtain ⟨k, h1, h2, h3, -⟩ := itm_mem N n z
      rcases hv (a + n) (by omega) with e | ⟨-, -, e⟩
      · omega
      · exact (e k (by omega)).1 h3.symm
    · exact ih
/-- the dearest that is at hand -/
def pkM (av : Nat → Bool) : Nat → Option Nat
  | 0 => none
  | m + 1 => if (av m && (pkM av m).all (fun b => decide (wt b < wt m))) = true then some m else pkM av m
def grM : Nat → (Nat → Bool) → Nat
  | 0, _ => 0
  | n + 1, av => match pkM wt av N with
    | none => 0
    | some b => wt b + grM n (fun m => av m && !decide (m = b))
theorem pkM_none {av : Nat → Bool} : ∀ n, pkM wt av n = none → ∀ m, m < n → av m = false
  | 0, _, m, hm => by omega
  | n + 1, e, m, hm => by
    rw [pkM] at e
    split at e
    · cases e
    · rename_i c
      by_cases z : m = n
      · subst z
        rw [e] at c
        simpa using c
      · exact pkM_none n e m (by omega)
theorem pkM_some {av : Nat → Bool} : ∀ n b, pkM wt av n = some b → b < n ∧ av b = true ∧ ∀ m, m < n → av m = true → wt m ≤ wt b
  | 0, b, e => by cases e
  | n + 1, b, e => by
    rw [pkM] at e
    split at e
    · rename_i c
      injection e with e
      subst e
      rw [Bool.and_eq_true] at c
      refine ⟨by omega, c.1, fun m hm ha => ?_⟩
      by_cases z : m = n
      · subst z; omega
      · cases e2 : pkM wt av n with
        | none => rw [pkM_none wt n e2 m (by omega)] at ha; cases ha
        | some b2 =>
          have := (pkM_some n b2 e2).2.2 m (by omega) ha
          rw [e2] at c
          have c2 : wt b2 < wt n := by simpa using c.2
          omega
    · rename_i c
      obtain ⟨h1, h2, h3⟩ := pkM_some n b e
      refine ⟨by omega, h2, fun m hm ha => ?_⟩
      by_cases z : m = n
      · subst z
        rw [e, ha] at c
        simpa using c
      · exact h3 m (by omega) ha
theorem lsm_erase {b : Nat} : ∀ {L : List Nat}, b ∈ L → lsm wt L = wt b + lsm wt (L.erase b)
  | x :: r, h => by
    by_cases c : x = b
    · subst c; rw [List.erase_cons_head]; rfl
    · rw [List.erase_cons_tail (by simpa using c)]
      have h2 : b ∈ r := (List.mem_cons.mp h).resolve_left (fun z => c z.symm)
      rw [lsm, lsm, lsm_erase h2]
      omega
theorem grM_ub : ∀ (n : Nat) (av : Nat → Bool) (L : List Nat), L.Nodup → L.length ≤ n → (∀ x, x ∈ L → x < N ∧ av x = true) → lsm wt L ≤ grM N wt n av
  | 0, av, [], _, _, _ => Nat.le_refl _
  | n + 1, av, [], _, _, _ => Nat.zero_le _
  | n + 1, av, x :: r, hd, hl, ha => by
    rw [grM]
    cases e : pkM wt av N with
    | none =>
      have := pkM_none wt N e x (ha x (List.mem_cons_self ..)).1
      rw [(ha x (List.mem_cons_self ..)).2] at this
      cases this
    | some b =>
      obtain ⟨h1, h2, h3⟩ := pkM_some wt N b e
      dsimp only
      by_cases c : b ∈ x :: r
      · rw [lsm_erase wt c]
        have := grM_ub n (fun m => av m && !decide (m = b)) ((x :: r).erase b) (hd.erase b) (by rw [List.length_erase_of_mem c]; omega) (fun y hy => by
          have hy2 := (List.Nodup.mem_erase_iff hd).mp hy
          refine ⟨(ha y hy2.2).1, ?_⟩
          rw [(ha y hy2.2).2, decide_eq_false hy2.1]; rfl)
        omega
      · have hx := h3 x (ha x (List.mem_cons_self ..)).1 (ha x (List.mem_cons_self ..)).2
        have := grM_ub n (fun m => av m && !decide (m = b)) r (List.nodup_cons.mp hd).2 (by rw [List.length_cons] at hl; omega) (fun y hy => by
          refine ⟨(ha y (List.mem_cons_of_mem _ hy)).1, ?_⟩
          rw [(ha y (List.mem_cons_of_mem _ hy)).2, decide_eq_false (fun z => c (by rw [← z]; exact List.mem_cons_of_mem _ hy))]; rfl)
        rw [lsm]
        omega
theorem grM_le {W : Nat} (hW : ∀ m, m < N → wt m ≤ W) : ∀ (n : Nat) (av : Nat → Bool), grM N wt n av ≤ n * W
  | 0, av => Nat.zero_le _
  | n + 1, av => by
    rw [grM]
    cases e : pkM wt av N with
    | none => exact Nat.zero_le _
    | some b =>
      have h1 := hW b (pkM_some wt N b e).1
      have h2 := grM_le hW n (fun m => av m && !decide (m = b))
      rw [Nat.add_mul, Nat.one_mul]
      dsimp only
      omega
/-- what was used, and its sum -/
def usB (P : Nat → Nat) (m : Nat) : Nat → Bool
  | 0 => false
  | k + 1 => usB P m k || (decide (P k = m) && decide (m < N))
def smB (g : Nat → Bool) : Nat → Nat
  | 0 => 0
  | m + 1 => smB g m + (if g m = true then wt m else 0)
theorem usB_iff {P : Nat → Nat} {m : Nat} : ∀ a, usB N P m a = true ↔ ∃ k, k < a ∧ P k = m ∧ m < N
  | 0 => ⟨fun h => (by cases h), fun ⟨k, hk, _⟩ => by omega⟩
  | a + 1 => by
    rw [usB, Bool.or_eq_true, Bool.and_eq_true, decide_eq_true_eq, decide_eq_true_eq, usB_iff a]
    constructor
    · rintro (⟨k, h1, h2⟩ | h)
      · exact ⟨k, by omega, h2⟩
      · exact ⟨a, by omega, h⟩
    · rintro ⟨k, h1, h2⟩
      by_cases c : k = a
      · subst c; exact Or.inr h2
      · exact Or.inl ⟨k, by omega, h2⟩
theorem smB_cong {g g2 : Nat → Bool} : ∀ n, (∀ m, m < n → g m = g2 m) → smB wt g n = smB wt g2 n
  | 0, _ => rfl
  | n + 1, h => by rw [smB, smB, smB_cong n (fun m hm => h m (by omega)), h n (by omega)]
theorem smB_add {g : Nat → Bool} {v : Nat} : ∀ n, v < n → g v = false → smB wt (fun m => g m || decide (m = v)) n = smB wt g n + wt v
  | 0, h, _ => by omega
  | n + 1, h, hg => by
    rw [smB, smB]
    by_cases c : v = n
    · subst c
      rw [smB_cong wt v (g2 := g) (fun m hm => by rw [decide_eq_false (by omega), Bool.or_false]), hg]
      simp
    · rw [smB_add n (by omega) hg, decide_eq_false (show ¬ n = v by omega), Bool.or_false]
      omega
theorem smB_0 : ∀ n, smB wt (fun _ => false) n = 0
  | 0 => rfl
  | n + 1 => by rw [smB, smB_0 n]; rfl
theorem usB_sum {P : Nat → Nat} : ∀ a, vldP N dr ok lt P a → smB wt (fun m => usB N P m a) N = wsm N wt P a
  | 0, _ => smB_0 wt N
  | a + 1, hv => by
    have ih := usB_sum a (fun k hk => hv k (by omega))
    rw [wsm, ← ih]
    rcases hv a (by omega) with e | ⟨e, -, h3⟩
    · rw [if_neg (by omega), Nat.add_zero]
      apply smB_cong
      intro m hm
      rw [usB, decide_eq_false (by omega), Bool.false_and, Bool.or_false]
    · rw [if_pos e, ← smB_add wt N e]
      · apply smB_cong
        intro m hm
        rw [usB, decide_eq_true hm, Bool.and_true]
        by_cases c : P a = m
        · rw [decide_eq_true c, decide_eq_true c.symm]
        · rw [decide_eq_false c, decide_eq_false (fun z => c z.symm)]
      · cases c : usB N P (P a) a with
        | false => rfl
        | true =>
          obtain ⟨k, h1, h2, -⟩ := (usB_iff N a).mp c
          exact absurd h2 (h3 k h1).1
/-- no plan that goes on so brings more than the greedy sum -/
theorem more_ub {P Q : Nat → Nat} {a n : Nat} (hv : vldP N dr ok lt Q (a + n)) (hq : ∀ k, k < a → Q k = P k) : wsm N wt Q (a + n) ≤ wsm N wt P a + grM N wt n (fun m => !usB N P m a && ok m) := by
  rw [itm_sum N wt n, wsm_cong N wt a hq]
  have := grM_ub N wt n (fun m => !usB N P m a && ok m) (itm N Q a n) (itm_nodup N dr ok lt hv n (Nat.le_refl _)) (itm_len N n) (fun x hx => by
    obtain ⟨k, h1, h2, h3, h4⟩ := itm_mem N n hx
    subst h3
    refine ⟨h4, ?_⟩
    rcases hv k h2 with e | ⟨-, e1, e2⟩
    · omega
    · rw [e1, Bool.and_true]
      cases c : usB N P (Q k) a with
      | false => rfl
      | true =>
        obtain ⟨j, g1, g2, -⟩ := (usB_iff N a).mp c
        rw [← hq j g1] at g2
        exact absurd g2 (e2 j (by omega)).1)
  omega
end Knocks

