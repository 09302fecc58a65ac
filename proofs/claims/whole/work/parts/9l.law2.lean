/-! ===== the law: its loop; from the start ===== -/
section LL
variable {l : Launch} {w : WD} {d i m : Nat} {h : AH} {Q : Option AV → AH → Prop} {S : SG} {G : GH} {bc bs : Nat}
theorem lw_lt {L i : Nat} (hL : L ≤ 3072) (hi : i ≤ 4000) : nI L - 6 < nI i ↔ L < i + 6 := by
  by_cases c : L < 6
  · have h1 : nI L - 6 < 0 := (by decide : ∀ L, L < 6 → nI L - 6 < 0) L c
    have h2 : (0 : Int32) ≤ nI i := by
      rw [show (0 : Int32) = nI 0 from rfl, nI_leI (by omega) (by omega)]; omega
    exact ⟨fun _ => by omega, fun _ => Int32.lt_of_lt_of_le h1 h2⟩
  · rw [show (6 : Int32) = nI 6 from rfl, i32_sub_nI (by omega), nI_ltI (by omega) (by omega)]
    omega
theorem lw_ix0 (h26 : hC h 26 = 106) (s26 : aI h 26 = wS w) (hi : i + 6 ≤ (wS w).length) (hL : (wS w).length ≤ 3072) : ixI h 26 (nI i) := ⟨Or.inr h26, by rw [s26]; exact ix_of rfl (by omega) (by omega)⟩
set_option maxRecDepth 100000 in
theorem law_next (k : Ex l w true mL_law (d + 29) Q 18 (lwL (i + 6)) [] h bc bs) : Ex l w true mL_law (d + 29) Q 1228 (lwL i) [] h bc bs := by
  refine go ok_L_law ?_
  show Ex l w true mL_law (d + 29) Q 18 [some (vr 26), some (vr 32), some (vr 62), some (vi (nI i + 6))] [] h bc bs
  rw [show nI i + 6 = nI (i + 6) from nI_add ..]
  exact k
set_option maxRecDepth 100000 in
theorem law_sw (hi : i + 6 ≤ (wS w).length) (hL : (wS w).length ≤ 3072) (hv : IV S) (hc : RC S G h) (hM : RM S h) (K : ∀ S' G' h', IV S' → RC S' G' h' → RM S' h' → Ex l w true mL_law (d + 29) Q 1228 (lwL i) [] h' (8 * m) (400 * m)) : Ex l w true mL_law (d + 29) Q 27 (lwL i) [] h (8 * m + 8) (400 * m + 400) := by
  refine Ex.scr hc hM (fun h hc hM h26 s26 => ?_)
  refine go ok_L_law ?_
  refine And.intro (lw_ix0 h26 s26 hi hL) ?_
  refine And.intro (And.intro (fun _ => law_go hi hL hv hc hM K) (And.intro (fun _ => law_page hi hL hv hc hM K) (And.intro (fun _ => law_look hi hL hv hc hM K) (And.intro (fun _ => law_take hi hL hv hc hM K) (And.intro (fun _ => law_told hi hL hv hc hM K) (And.intro (fun _ => law_pieces hi hL hv hc hM K) (And.intro (fun _ => law_view hi hL hv hc hM K) (And.intro (fun _ => law_count hi hL hv hc hM K) (And.intro (fun _ => law_feed hi hL hv hc hM K) (And.intro (fun _ => law_read hi hL hv hc hM K) (And.intro (fun _ => law_program hi hL hv hc hM K) (And.intro (fun _ => law_fault hi hL hv hc hM K) (And.intro (fun _ => law_right hi hL hv hc hM K) (And.intro (fun _ => law_alike hi hL hv hc hM K) (And.intro (fun _ => law_sure hi hL hv hc hM K) (And.intro (fun _ => law_state hi hL hv hc hM K) (And.intro (fun _ => law_hours hi hL hv hc hM K) (And.intro (fun _ => law_part hi hL hv hc hM K) (And.intro (fun _ => law_wipe hi hL hv hc hM K) (And.intro (fun _ => law_whole hi hL hv hc hM K) (And.intro (fun _ => law_bothWays hi hL hv hc hM K) (And.intro (fun _ => law_rate hi hL hv hc hM K) (And.intro (fun _ => law_plan hi hL hv hc hM K) (And.intro (fun _ => law_links hi hL hv hc hM K) (And.intro (fun _ => law_more hi hL hv hc hM K) (And.intro (fun _ => law_likeness hi hL hv hc hM K) (And.intro (fun _ => law_moved hi hL hv hc hM K) (And.intro (fun _ => law_lose hi hL hv hc hM K) (And.intro (fun _ => law_words hi hL hv hc hM K) (And.intro (fun _ => law_mend hi hL hv hc hM K) (And.intro (fun _ => law_shown hi hL hv hc hM K) (And.intro (fun _ => law_since hi hL hv hc hM K) (And.intro (fun _ => law_first hi hL hv hc hM K) (And.intro (fun _ => law_nowhere hi hL hv hc hM K) (True.intro))))))))))))))))))))))))))))))))))) (fun _ => ?_)
  exact Ex.mono (by omega) (by omega) (K _ _ _ hv hc hM)
set_option maxRecDepth 100000 in
theorem law_end (hq : ∀ h', Q (some (vi 1)) h') : Ex l w true mL_law (d + 29) Q 1234 (lwL i) [] h bc bs := by
  refine go ok_L_law ?_
  exact ⟨Or.inr rfl, hq _⟩
set_option maxRecDepth 100000 in
theorem law_loop (hq : ∀ h', Q (some (vi 1)) h') (hL : (wS w).length ≤ 3072) : ∀ (m i : Nat) (S : SG) (G : GH) (h : AH), (wS w).length < i + 6 * m + 6 → i ≤ 3900 → IV S → RC S G h → RM S h → Ex l w true mL_law (d + 29) Q 18 (lwL i) [] h (8 * m) (400 * m) := by
  intro m
  induction m with
  | zero =>
    intro i S G h hm hi hv hc hM
    refine Ex.scr hc hM (fun h hc hM h26 s26 => ?_)
    refine go ok_L_law ?_
    refine Or.inr (Or.inr (And.intro (Or.inr h26) ?_))
    refine asAnd ?_
    rw [s26, lw_lt hL (by omega)]
    exact And.intro (fun _ => law_end hq) (fun c => absurd hm (by omega))
  | succ m ih =>
    intro i S G h hm hi hv hc hM
    refine Ex.scr hc hM (fun h hc hM h26 s26 => ?_)
    refine go ok_L_law ?_
    refine Or.inr (Or.inr (And.intro (Or.inr h26) ?_))
    refine asAnd ?_
    rw [s26, lw_lt hL (by omega)]
    refine And.intro (fun _ => law_end hq) (fun c => ?_)
    exact law_sw (m := m) (by omega) hL hv hc hM (fun S' G' h' hv' hc' hM' => law_next (ih (i + 6) S' G' h' (by omega) (by omega) hv' hc' hM'))
def G0 : GH := ([], [], fun _ => 0, fun _ => 0, fun _ => 100, fun r => 232 + (r - 59))
theorem kn_al {h0 h : AH} {b : Nat} (hs : STH h) (h1 : hC h b = 1) (h2 : hI h 2 b = 0) (h3 : hR h 1 b = 1) : AL h b [] := by
  unfold AL
  rw [h3, hs.2.1]
  exact ⟨h1, h2, hs.1, Nat.le_refl _, by decide, fun i hi => absurd hi (Nat.not_lt_zero _), Or.inl ⟨rfl, rfl⟩, fun r hr => absurd hr List.not_mem_nil⟩
theorem kn_rc {h0 h : AH} (x : Tok h0 knE h) (hs0 : STH h0) : RC S0 G0 h := by
  have sm := x.2.2.1
  have hs : STH h := hs0.cg (fun n hn => (sm n hn).1) (fun n hn => (sm n hn).2.1 _) (fun n hn => (sm n hn).2.2.2.1 _) (fun n hn => (sm n hn).2.2.2.2.2.2) (fun n hn => (sm n hn).2.2.2.2.1)
  have r3 : hR h 583 32 = 54 := x.r (by decide +kernel)
  have r4 : hR h 584 32 = 56 := x.r (by decide +kernel)
  have r5 : hR h 585 32 = 58 := x.r (by decide +kernel)
  have q0 : hR h 320 58 = 59 := x.r (by decide +kernel)
  have q1 : hR h 321 58 = 60 := x.r (by decide +kernel)
  have q2 : hR h 322 58 = 61 := x.r (by decide +kernel)
  have p0 : hR h 1 33 = 1 := x.r (by decide +kernel)
  have p1 : hR h 1 34 = 1 := x.r (by decide +kernel)
  have p2 : hR h 1 39 = 1 := x.r (by decide +kernel)
  refine ⟨hs, x.i (by decide +kernel), x.i (by decide +kernel), kn_al (h0 := h0) hs (x.c (by decide +kernel)) (x.i (by decide +kernel)) p0, kn_al (h0 := h0) hs (x.c (by decide +kernel)) (x.i (by decide +kernel)) p1, ⟨rfl, fun k hk => absurd hk (Nat.not_lt_zero _)⟩, ⟨rfl, by decide, fun k hk => absurd hk (Nat.not_lt_zero _)⟩, ⟨?_, Or.inl ⟨r3, r4⟩⟩, ?_, ⟨x.i (by decide +kernel), by decide, fun k hk => absurd hk (Nat.not_lt_zero _)⟩, x.al (by decide +kernel), kn_al (h0 := h0) hs (x.c (by decide +kernel)) (x.i (by decide +kernel)) p2, ?_, ⟨fun p hp => absurd hp (Nat.not_lt_zero _), fun b hb => ?_, ⟨?_, fun p hp => absurd hp (Nat.not_lt_zero _)⟩, fun q hq j hj => ?_⟩⟩
  · rw [r3]
    refine ⟨x.c (by decide +kernel), Or.inl rfl, x.ai (by decide +kernel), fun k hk => ?_, x.i (by decide +kernel), x.i (by decide +kernel), x.l (by decide +kernel)⟩
    rw [show hI h 385 54 = 0 from x.i (by decide +kernel), b_0]
    exact (by decide : ∀ k, k < 6 → false = !decide ((gRt S0).1.getD k 0 = 0)) k hk
  · intro k hk
    rw [show aI h 35 = [-1000, -1000, -1000, -1000, -1000, -1000] from x.ai (by decide +kernel)]
    exact (by decide : ∀ k, k < 6 → ([-1000, -1000, -1000, -1000, -1000, -1000] : List Int32).getD k 0 = -1000) k hk
  · rw [r5]
    unfold PMs
    rw [q0, q1, q2, show aI h 59 = List.replicate 8 0 from x.ai (by decide +kernel), show aI h 60 = List.replicate 8 0 from x.ai (by decide +kernel), show aI h 61 = List.replicate 8 0 from x.ai (by decide +kernel)]
    exact ⟨x.c (by decide +kernel), ⟨x.c (by decide +kernel), rfl⟩, ⟨x.c (by decide +kernel), rfl⟩, ⟨x.c (by decide +kernel), rfl⟩⟩
  · rcases hb with z | z | z | ⟨p, hp, z⟩
    · rw [z]; exact Or.inl p0
    · rw [z]; exact Or.inl p1
    · rw [z]; exact Or.inl p2
    · exact absurd hp (Nat.not_lt_zero _)
  · rfl
  · rcases hq with z | ⟨p, hp, z⟩
    · rw [r5] at z
      subst z
      have hj' : j = 0 ∨ j = 1 ∨ j = 2 := by omega
      rcases hj' with z | z | z
      · subst z; rw [show hR h (320 + 0) 58 = 59 from q0]; exact ⟨rfl, by decide⟩
      · subst z; rw [show hR h (320 + 1) 58 = 60 from q1]; exact ⟨rfl, by decide⟩
      · subst z; rw [show hR h (320 + 2) 58 = 61 from q2]; exact ⟨rfl, by decide⟩
    · exact absurd hp (Nat.not_lt_zero _)
theorem kn_iv : IV S0 := by
  refine ⟨⟨⟨by decide, by decide⟩, fun i hi => absurd hi (Nat.not_lt_zero _), fun i hi => absurd hi (Nat.not_lt_zero _), fun i j _ hj => absurd hj (Nat.not_lt_zero _), rfl, ⟨rfl, rfl, by decide, by decide, by decide, by decide⟩, fun i hi => absurd hi (Nat.not_lt_zero _), ⟨rfl, fun p k hk => ?_⟩, fun i hi => absurd hi (Nat.not_lt_zero _), fun i j _ hj => absurd hj (Nat.not_lt_zero _)⟩, fun p _ => ?_⟩
  · have e : prD (gPr S0) p = [] := by
      show (List.replicate 12 ([] : List CLS)).getD p [] = []
      rw [List.getD_eq_getElem?_getD, List.getElem?_replicate]
      split <;> rfl
    rw [e] at hk
    exact absurd hk (Nat.not_lt_zero _)
  · show (List.replicate 12 ([] : List CLS)).getD p [] = []
    rw [List.getD_eq_getElem?_getD, List.getElem?_replicate]
    split <;> rfl
set_option maxRecDepth 100000 in
theorem law_all (hz : hZ h = 32) (hst : STH h) (hq : ∀ h', Q (some (vi 1)) h') (hL : (wS w).length ≤ 3072) : Ex l w false mL_law (d + 29) Q 0 [some (vr 26), none, none, none] [] h 4152 206458 := by
  have x0 : Tok h kk0 h := ⟨hz, by decide, fun n _ => SM.rf h n, fun q hq => absurd hq List.not_mem_nil, fun q hq => absurd hq List.not_mem_nil, fun q hq => absurd hq List.not_mem_nil, fun q hq => absurd hq List.not_mem_nil, fun q hq => absurd hq List.not_mem_nil, fun q hq => absurd hq List.not_mem_nil⟩
  refine goN 3 ok_L_law ?_
  refine ⟨4151, 206446, rfl, rfl, ?_⟩
  have yw : Tok h kk1 _ := x0.nw 10 [] []
  generalize nW h 10 = B at yw ⊢
  rw [hz]
  refine And.intro (show hC B 32 = 10 from yw.c (by decide +kernel)) ?_
  refine Cal.k 29 387 (c2 := 4122) (s2 := 206059) rfl rfl (i_x8 yw (fun h2 y2 => ?_))
  refine goN 4 ok_L_law ?_
  refine ⟨4121, 206009, rfl, rfl, ?_⟩
  have yv : Tok h kn0 _ := y2.nw 11 _ _
  have e1 : hZ h2 = 62 := y2.1
  generalize nW h2 11 = B2 at yv ⊢
  rw [e1]
  refine And.intro (show hC B2 62 = 11 from yv.c (by decide +kernel)) ?_
  refine Cal.k 25 1209 (c2 := 4096) (s2 := 204800) rfl rfl (i_x9 yv (fun h3 h4 y3 ho hy hM => ?_))
  refine goN 3 ok_L_law ?_
  refine Ex.tm hy ?_
  refine Ex.om (kn_rc y3 hst) ho (fun hc4 => ?_)
  exact law_loop hq hL 512 0 S0 G0 h4 (by omega) (by omega) kn_iv hc4 hM
end LL

