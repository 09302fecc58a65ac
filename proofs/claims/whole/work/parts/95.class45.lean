/-! ===== the class: page, a new one ===== -/
theorem klR_ds {ds : List Int32} {D : List LK} {dr : Int32} {k : Nat} : ∀ n, n ≤ D.length → (∀ i, i < D.length → pgD D i < ds.length) → klR (ds ++ [dr]) D k n = klR ds D k n := by
  intro n
  induction n with
  | zero => intro _ _; rfl
  | succ n ih =>
    intro hn hp
    rw [klR, klR, ih (by omega) hp, getD_snoc_l (hp n (by omega))]
theorem vws_none {D : List LK} {p : Nat} (hp : ∀ i, i < D.length → pgD D i < p) : vws D p = [] := by
  unfold vws
  refine List.filter_eq_nil_iff.mpr (fun l hl => ?_)
  have := hp l (List.mem_range.mp hl)
  rw [decide_eq_false (by omega), Bool.false_and]
  decide
section C45
variable {l : Launch} {w : WD} {d : Nat} {h h' h1 h2 : AH} {Q : Option AV → AH → Prop} {S S' : SG} {G G' : GH} {b a : Nat} {L : List Nat}
theorem PMc.af {cs : List CLS} {q : Nat} (hp : PMc cs q h1) (af : AF b h1 h2) (ho1 : ∀ n, ¬ hC h1 n = 0 → n < hZ h1) (hb : hC h1 b = 1) : PMc cs q h2 := by
  obtain ⟨⟨y1, ⟨y2, y3⟩, ⟨y4, y5⟩, ⟨y6, y7⟩⟩, a2⟩ := hp
  have nq : ¬ q = hZ h1 := by have := ho1 q (by omega); omega
  have nb : ¬ q = b := fun e => by rw [e] at y1; omega
  have m0 : ¬ hR h1 320 q = hZ h1 := by have := ho1 (hR h1 320 q) (by omega); omega
  have m1 : ¬ hR h1 321 q = hZ h1 := by have := ho1 (hR h1 321 q) (by omega); omega
  have m2 : ¬ hR h1 322 q = hZ h1 := by have := ho1 (hR h1 322 q) (by omega); omega
  unfold PMc PMs
  rw [af.2.2.2.1 320 q nq (fun z => nb z.2), af.2.2.2.1 321 q nq (fun z => nb z.2), af.2.2.2.1 322 q nq (fun z => nb z.2), af.1 q nq, af.1 _ m0, af.1 _ m1, af.1 _ m2, af.2.2.2.2.1 _ m0, af.2.2.2.2.1 _ m1, af.2.2.2.2.1 _ m2, af.2.1 323 q nq (fun z => nb z.2), af.2.1 324 q nq (fun z => nb z.2)]
  exact ⟨⟨y1, ⟨y2, y3⟩, ⟨y4, y5⟩, ⟨y6, y7⟩⟩, a2⟩
/-- the owners when a page came -/
def pgG (G : GH) (z y n : Nat) : GH := (gPa G ++ [z], gLa G, ownR G.2.2.1 (z + 1) n, ownR G.2.2.2.1 y 33, ownR G.2.2.2.2.1 (z + 2) n, fun r => if z + 3 ≤ r ∧ r < z + 6 then 4 * (z + 2) + (r - (z + 3)) else G.2.2.2.2.2 r)
theorem RC.pgn (hc : RC S G h) (hv : Inv S) (hv2 : prD (gPr S) (gDs S).length = []) (hn : (gDs S).length < 12) (hy : Lay h) (ho : ∀ n, ¬ hC h n = 0 → n < hZ h) {A : AH} (fA : NWf h A 4) {dr : Int32} (np : NPg A h1 (hZ h) (nI (gDs S).length) dr) (ho1 : ∀ n, ¬ hC h1 n = 0 → n < hZ h1) (hA : AL h2 33 (gPa G ++ [hZ h])) (af : AF 33 h1 h2) : RC (sDs S (gDs S ++ [dr])) (pgG G (hZ h) (hZ h1) (gDs S).length) h2 ∧ OX h h2 := by
  have hz := hy.1
  obtain ⟨f1, f2, f3, f4⟩ := fA
  obtain ⟨x1, ⟨x2, x3, x4, x5, x6⟩, ⟨x7, x8, x9⟩, ⟨x10, x11⟩, x12⟩ := np
  rw [f4] at x1 x5 x6 x7 x8 x9 x10 x11 x12
  have sm : ∀ m, m < hZ h → SM h h1 m := fun m hm => (f1 m (by omega)).tr (x1 m (by omega) (by omega))
  have hc1 := hc.ext hy ho sm
  have hy1 : Lay h1 := hy.sm (by omega) (fun m hm => sm m (by omega))
  have n0 : ∀ {n}, n < hZ h1 → ¬ n = hZ h1 := fun hn => by omega
  have fz : ∀ {n}, ft h1 n → n < hZ h1 := fun hf => RC.fz hy1 ho1 hf
  have i33 : isLs S G h1 33 := Or.inl rfl
  have tr : ∀ c L, isLs S G h1 c → ¬ c = 33 → AL h1 c L → AL h2 c L := fun c L hcl hne hL => hL.af af hne ho1 (hc1.row i33 hcl hne)
  have h12 := hc.pgs.2.1
  have epl := hc.pgs.1
  have pz : ∀ p, p < (gDs S).length → gN (gPa G) p < hZ h := fun p hp => ho _ (by rw [(hc.pgs.2.2 p hp).1.1]; decide)
  have p194 : ∀ p, p < (gDs S).length → hR h1 194 (gN (gPa G) p) = hR h 194 (gN (gPa G) p) := fun p hp => (sm _ (pz p hp)).2.2.2.1 194
  have p195 : ∀ p, p < (gDs S).length → hR h1 195 (gN (gPa G) p) = hR h 195 (gN (gPa G) p) := fun p hp => (sm _ (pz p hp)).2.2.2.1 195
  have q194 : ∀ p, p < (gDs S).length → hR h 194 (gN (gPa G) p) < hZ h := fun p hp => ho _ (by rw [(hc.pgs.2.2 p hp).2.2.2.1.1]; decide)
  have q195 : ∀ p, p < (gDs S).length → hR h 195 (gN (gPa G) p) < hZ h := fun p hp => ho _ (by rw [(hc.pgs.2.2 p hp).2.2.2.2.1.1]; decide)
  -- all but the list of pages, at h2, for the old pages
  have r0 : RC0 S (G.1, G.2.1, G.2.2.1, ownR G.2.2.2.1 (hZ h1) 33, G.2.2.2.2) h2 := by
    refine hc1.gen0 (fun n hf => af.1 n (n0 (fz hf))) (fun f n hf _ h2 => af.2.1 f n (n0 (fz hf)) (fun z => h2 z.1)) (fun f n hf _ => af.2.2.1 f n (n0 (fz hf))) (fun f n hf _ h2 => af.2.2.2.1 f n (n0 (fz hf)) (fun z => h2 z.1)) (fun n hf _ => af.2.2.2.2.1 n (n0 (fz hf))) (fun n hn => af.2.2.2.2.2.2.1 n (by omega) (by omega)) hy1 rfl rfl rfl rfl rfl rfl rfl rfl rfl
      (tr 34 _ (Or.inr (Or.inl rfl)) (by decide) hc1.lk) (tr 39 _ (Or.inr (Or.inr (Or.inl rfl))) (by decide) hc1.wh) (fun p hp => ?_) (hc1.lks.af af ho1 (yc33 hy1)) ?_ ?_ (fun c hcl => ?_)
    · exact tr _ _ (Or.inr (Or.inr (Or.inr ⟨p, hp, rfl⟩))) (hc1.vne hp (by decide)) (hc1.pgs.2.2 p hp).2.2.2.1
    · rw [af.2.2.2.2.1 35 (by omega)]; exact hc1.kn
    · rw [af.2.2.2.2.2.1 53 (by omega)]; exact hc1.hs
    · show _ ∨ (if hR h2 1 c = hZ h1 then 33 else G.2.2.2.1 (hR h2 1 c)) = c
      have hL : ∃ L, AL h1 c L := by
        rcases hcl with z | z | z | ⟨p, hp, z⟩
        · exact ⟨_, z ▸ hc1.pg⟩
        · exact ⟨_, z ▸ hc1.lk⟩
        · exact ⟨_, z ▸ hc1.wh⟩
        · exact ⟨_, z ▸ (hc1.pgs.2.2 p hp).2.2.2.1⟩
      obtain ⟨L, hL⟩ := hL
      have b1 := ho1 c (by rw [hL.1]; decide)
      have b2 := ho1 (hR h1 1 c) (by rw [hL.2.2.1]; decide)
      by_cases e : c = 33
      · subst e
        rcases af.2.2.2.2.2.2.2.2 with z | z
        · rw [z, if_neg (by omega)]; exact hc1.ow.2.1 33 i33
        · right; rw [z, if_pos rfl]
      · rw [af.2.2.2.1 1 c (by omega) (fun z => e z.2), if_neg (by omega)]
        exact hc1.ow.2.1 c hcl
  have ez1 : hZ h + 1 + 5 = hZ h1 := x12.symm
  have g1 : ∀ m, m < hZ h1 → hC h2 m = hC h1 m := fun m hm => af.1 m (by omega)
  have g2 : ∀ f m, m < hZ h1 → 88 ≤ m → hI h2 f m = hI h1 f m := fun f m hm h8 => af.2.1 f m (by omega) (by omega)
  have g3 : ∀ f m, m < hZ h1 → 88 ≤ m → hR h2 f m = hR h1 f m := fun f m hm h8 => af.2.2.2.1 f m (by omega) (by omega)
  have pm2 : PMc [] (hZ h + 1 + 1) h2 := x10.af af ho1 (yc33 hy1)
  have al2 : AL h2 (hZ h + 1) [] := by
    have e1 : hR h2 1 (hZ h + 1) = 1 := by rw [g3 1 _ (by omega) (by omega)]; exact x9
    have st := r0.1
    unfold AL
    rw [e1, st.2.1, st.1, g1 _ (by omega), g2 2 _ (by omega) (by omega)]
    exact ⟨x7, x8, rfl, Nat.le_refl _, Nat.zero_le _, fun i hi => absurd hi (Nat.not_lt_zero _), Or.inl ⟨rfl, rfl⟩, fun r hr => absurd hr List.not_mem_nil⟩
  have snl : ∀ p, p < (gDs S).length → gN (gPa G ++ [hZ h]) p = gN (gPa G) p := fun p hp => gN_snoc_l (by omega)
  have sne : gN (gPa G ++ [hZ h]) (gDs S).length = hZ h := by rw [← epl]; exact gN_snoc_e
  have el : (gDs S ++ [dr]).length = (gDs S).length + 1 := by rw [List.length_append]; rfl
  have hR585 : hR h2 585 32 < hZ h := by
    rw [af.2.2.2.1 585 32 (by omega) (by omega), (sm 32 (by omega)).2.2.2.1]
    exact ho _ (by rw [hc.pms.1]; decide)
  obtain ⟨k1, k2, k3, k4, k5, ⟨k61, k62, k63⟩, k7, k8, k9, k10, k11, k12, ⟨w1, w2, w3, w4⟩⟩ := r0
  have v2 : ∀ p, p < (gDs S).length → hR h2 194 (gN (gPa G) p) < hZ h := fun p hp => by
    rw [af.2.2.2.1 194 _ (by have := pz p hp; omega) (by omega), p194 p hp]; exact q194 p hp
  have v3 : ∀ p, p < (gDs S).length → hR h2 195 (gN (gPa G) p) < hZ h := fun p hp => by
    rw [af.2.2.2.1 195 _ (by have := pz p hp; omega) (by omega), p195 p hp]; exact q195 p hp
  have z194 : hR h2 194 (hZ h) = hZ h + 1 := by rw [g3 194 _ (by omega) (by omega)]; exact x5
  have z195 : hR h2 195 (hZ h) = hZ h + 1 + 1 := by rw [g3 195 _ (by omega) (by omega)]; exact x6
  refine ⟨⟨k1, k2, k3, hA, k4, ⟨k5.1, fun i hi => ?_⟩, ⟨?_, ?_, fun p hp => ?_⟩, k7, ?_, k9, k10, k11, k12, ⟨fun p hp => ?_, fun c hcl => ?_, ⟨?_, fun p hp => ?_⟩, fun q hq j hj => ?_⟩⟩, ?_⟩
  · show _ ∧ _ ∧ hR h2 129 (gN (gLa G) i) = gN (gPa G ++ [hZ h]) (pgD (gD S) i) ∧ _
    rw [snl _ (hv.pg hi)]
    exact k5.2 i hi
  · show (gPa G ++ [hZ h]).length = (gDs S ++ [dr]).length
    rw [el, List.length_append, epl]; rfl
  · show (gDs S ++ [dr]).length ≤ 12
    omega
  · replace hp : p < (gDs S ++ [dr]).length := hp
    show (hC h2 (gN (gPa G ++ [hZ h]) p) = 4 ∧ 88 ≤ gN (gPa G ++ [hZ h]) p) ∧ hI h2 192 (gN (gPa G ++ [hZ h]) p) = nI p ∧ hI h2 193 (gN (gPa G ++ [hZ h]) p) = (gDs S ++ [dr]).getD p 0 ∧ AL h2 (hR h2 194 (gN (gPa G ++ [hZ h]) p)) (vwA (gLa G) (vws (gD S) p)) ∧ PMc (prD (gPr S) p) (hR h2 195 (gN (gPa G ++ [hZ h]) p)) h2
    by_cases e : p = (gDs S).length
    · subst e
      rw [sne, getD_snoc_e, vws_none (fun i hi => hv.pg hi), hv2, z194, z195, g1 _ (by omega), g2 192 _ (by omega) (by omega), g2 193 _ (by omega) (by omega)]
      exact ⟨⟨x2, hz⟩, x3, x4, al2, pm2⟩
    · rw [snl p (by omega), getD_snoc_l (by omega)]
      exact k63 p (by omega)
  · intro k hk
    show _ = klR (gDs S ++ [dr]) (gD S) k (gD S).length
    rw [klR_ds _ (Nat.le_refl _) (fun i hi => hv.pg hi)]
    exact k8 k hk
  · replace hp : p < (gDs S ++ [dr]).length := hp
    show (if hR h2 194 (gN (gPa G ++ [hZ h]) p) = hZ h + 1 then (gDs S).length else G.2.2.1 (hR h2 194 (gN (gPa G ++ [hZ h]) p))) = p ∧ 88 ≤ hR h2 194 (gN (gPa G ++ [hZ h]) p)
    by_cases e : p = (gDs S).length
    · subst e
      rw [sne, z194, if_pos rfl]
      exact ⟨rfl, by omega⟩
    · have y := v2 p (by omega)
      rw [snl p (by omega), if_neg (by omega)]
      exact w1 p (by omega)
  · rcases hcl with z | z | z | ⟨p, hp, z⟩
    · exact w2 c (Or.inl z)
    · exact w2 c (Or.inr (Or.inl z))
    · exact w2 c (Or.inr (Or.inr (Or.inl z)))
    · replace hp : p < (gDs S ++ [dr]).length := hp
      replace z : c = hR h2 194 (gN (gPa G ++ [hZ h]) p) := z
      by_cases e : p = (gDs S).length
      · subst e
        rw [sne, z194] at z
        left
        rw [z, g3 1 _ (by omega) (by omega)]; exact x9
      · rw [snl p (by omega)] at z
        exact w2 c (Or.inr (Or.inr (Or.inr ⟨p, by show p < (gDs S).length; omega, z⟩)))
  · show (if hR h2 585 32 = hZ h + 2 then (gDs S).length else G.2.2.2.2.1 (hR h2 585 32)) = 100
    rw [if_neg (by omega)]
    exact w3.1
  · replace hp : p < (gDs S ++ [dr]).length := hp
    show (if hR h2 195 (gN (gPa G ++ [hZ h]) p) = hZ h + 2 then (gDs S).length else G.2.2.2.2.1 (hR h2 195 (gN (gPa G ++ [hZ h]) p))) = p
    by_cases e : p = (gDs S).length
    · subst e
      rw [sne, z195, if_pos rfl]
    · have y := v3 p (by omega)
      rw [snl p (by omega), if_neg (by omega)]
      exact w3.2 p (by show p < (gDs S).length; omega)
  · show (if hZ h + 3 ≤ hR h2 (320 + j) q ∧ hR h2 (320 + j) q < hZ h + 6 then 4 * (hZ h + 2) + (hR h2 (320 + j) q - (hZ h + 3)) else G.2.2.2.2.2 (hR h2 (320 + j) q)) = 4 * q + j ∧ _
    have old : ∀ q, isPm S (G.1, G.2.1, G.2.2.1, ownR G.2.2.2.1 (hZ h1) 33, G.2.2.2.2) h2 q → isPm S G h q → (if hZ h + 3 ≤ hR h2 (320 + j) q ∧ hR h2 (320 + j) q < hZ h + 6 then 4 * (hZ h + 2) + (hR h2 (320 + j) q - (hZ h + 3)) else G.2.2.2.2.2 (hR h2 (320 + j) q)) = 4 * q + j ∧ ((59 ≤ hR h2 (320 + j) q ∧ hR h2 (320 + j) q ≤ 61) ∨ 88 ≤ hR h2 (320 + j) q) := by
      intro q hq hq0
      have hms : PMs q h := by
        rcases hq0 with z | ⟨p, hp, z⟩
        · rw [z]; exact hc.pms
        · rw [z]; exact (hc.pm hp).1
      have hqz := ho q (by rw [hms.1]; decide)
      have hr : hR h (320 + j) q < hZ h := by
        have hj' : j = 0 ∨ j = 1 ∨ j = 2 := by omega
        rcases hj' with z | z | z
        · subst z; exact ho _ (by rw [hms.2.1.1]; decide)
        · subst z; exact ho _ (by rw [hms.2.2.1.1]; decide)
        · subst z; exact ho _ (by rw [hms.2.2.2.1]; decide)
      have e : hR h2 (320 + j) q = hR h (320 + j) q := by
        rw [af.2.2.2.1 (320 + j) q (by omega) (by omega), (sm q hqz).2.2.2.1]
      have y := w4 q hq j hj
      rw [if_neg (by omega)]
      exact y
    rcases hq with z | ⟨p, hp, z⟩
    · exact old q (Or.inl z) (Or.inl (by rw [z, af.2.2.2.1 585 32 (by omega) (by omega), (sm 32 (by omega)).2.2.2.1]))
    · replace hp : p < (gDs S ++ [dr]).length := hp
      replace z : q = hR h2 195 (gN (gPa G ++ [hZ h]) p) := z
      by_cases e : p = (gDs S).length
      · subst e
        rw [sne, z195] at z
        subst z
        have y := x11 j hj
        have e2 : hR h2 (320 + j) (hZ h + 1 + 1) = hZ h + 1 + 2 + j := by rw [g3 (320 + j) _ (by omega) (by omega)]; exact y
        rw [e2, if_pos (by omega)]
        omega
      · rw [snl p (by omega)] at z
        exact old q (Or.inr ⟨p, by show p < (gDs S).length; omega, z⟩) (Or.inr ⟨p, by omega, by rw [z, af.2.2.2.1 195 _ (by have := pz p (by omega); omega) (by omega), p195 p (by omega)]⟩)
  · exact ⟨fun f hf => ⟨by rw [af.2.1 f 62 (by omega) (by omega), (sm 62 (by omega)).2.1], by rw [af.2.2.1 f 62 (by omega), (sm 62 (by omega)).2.2.1]⟩, fun x h1 h2 => ⟨by rw [af.2.2.2.2.1 x (by omega), (sm x (by omega)).2.2.2.2.1], by rw [af.2.2.2.2.2.1 x (by omega), (sm x (by omega)).2.2.2.2.2.1]⟩⟩
end C45

