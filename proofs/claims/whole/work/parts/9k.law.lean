/-! ===== the law: its calls ===== -/
abbrev lwL (i : Nat) : List (Option AV) := [some (vr 26), some (vr 32), some (vr 62), some (vi (nI i))]
section LW
variable {l : Launch} {w : WD} {d i m : Nat} {h : AH} {Q : Option AV → AH → Prop} {S : SG} {G : GH}
theorem lw_ix (h26 : hC h 26 = 106) (s26 : aI h 26 = wS w) (hi : i + 6 ≤ (wS w).length) (hL : (wS w).length ≤ 3072) {k : Nat} (hk : k < 6) : ixI h 26 (nI i + nI k) := by
  refine ⟨Or.inr h26, ?_⟩
  rw [s26, nI_add]
  exact ix_of rfl (by omega) (by omega)
theorem cmp_self (x : Int64) : lg_cmp x x = 0 := by
  unfold lg_cmp
  rw [if_neg (Int64.lt_irrefl), if_pos rfl]
theorem law_go (hi : i + 6 ≤ (wS w).length) (hL : (wS w).length ≤ 3072) (hv : IV S) (hc : RC S G h) (hM : RM S h) (K : ∀ S' G' h', IV S' → RC S' G' h' → RM S' h' → Ex l w true mL_law (d + 29) Q 1228 (lwL i) [] h' (8 * m) (400 * m)) : Ex l w true mL_law (d + 29) Q 184 (lwL i) [] h (8 * m + 8) (400 * m + 400) := by
  refine Ex.scr hc hM (fun h hc hM h26 s26 => ?_)
  refine go ok_L_law ?_
  refine And.intro (lw_ix (k := 1) h26 s26 hi hL (by decide)) ?_
  refine asCal ?_
  rw [s26]
  refine Cal.z (c_go hc (fun h1 hc1 hx1 => ?_))
  have hM1 := hM.ox hx1
  refine Ex.scr hc1 hM1 (fun h1 hc1 hM1 h26 s26 => ?_)
  refine go ok_L_law ?_
  refine And.intro (lw_ix (k := 1) h26 s26 hi hL (by decide)) ?_
  refine asCal ?_
  rw [s26]
  refine Cal.z (r_go hM1 (fun h2 hM2 ho2 => ?_))
  refine Ex.om hc1 ho2 (fun hc2 => ?_)
  refine go ok_L_law ?_
  refine And.intro (fun _ => Ex.mono (by omega) (by omega) (K _ _ _ (iv_go hv _) hc2 hM2)) (fun c => absurd rfl c)
theorem law_page (hi : i + 6 ≤ (wS w).length) (hL : (wS w).length ≤ 3072) (hv : IV S) (hc : RC S G h) (hM : RM S h) (K : ∀ S' G' h', IV S' → RC S' G' h' → RM S' h' → Ex l w true mL_law (d + 29) Q 1228 (lwL i) [] h' (8 * m) (400 * m)) : Ex l w true mL_law (d + 29) Q 207 (lwL i) [] h (8 * m + 8) (400 * m + 400) := by
  refine Ex.scr hc hM (fun h hc hM h26 s26 => ?_)
  refine go ok_L_law ?_
  refine And.intro (lw_ix (k := 1) h26 s26 hi hL (by decide)) ?_
  refine asCal ?_
  rw [s26]
  refine Cal.k 7 186 (c2 := 8 * m + 1) (s2 := 400 * m + 214) (by omega) (by omega) (c_page hc hv.1 hv.2 (fun G1 h1 hc1 hx1 => ?_))
  have hM1 := hM.ox hx1
  refine Ex.scr hc1 hM1 (fun h1 hc1 hM1 h26 s26 => ?_)
  refine go ok_L_law ?_
  refine And.intro (lw_ix (k := 1) h26 s26 hi hL (by decide)) ?_
  refine asCal ?_
  rw [s26]
  refine Cal.z (r_page hM1 (fun h2 hM2 ho2 => ?_))
  refine Ex.om hc1 ho2 (fun hc2 => ?_)
  refine go ok_L_law ?_
  refine And.intro (fun _ => Ex.mono (by omega) (by omega) (K _ _ _ (iv_page hv _) hc2 hM2)) (fun c => absurd rfl c)
theorem law_look (hi : i + 6 ≤ (wS w).length) (hL : (wS w).length ≤ 3072) (hv : IV S) (hc : RC S G h) (hM : RM S h) (K : ∀ S' G' h', IV S' → RC S' G' h' → RM S' h' → Ex l w true mL_law (d + 29) Q 1228 (lwL i) [] h' (8 * m) (400 * m)) : Ex l w true mL_law (d + 29) Q 230 (lwL i) [] h (8 * m + 8) (400 * m + 400) := by
  refine Ex.scr hc hM (fun h hc hM h26 s26 => ?_)
  refine go ok_L_law ?_
  refine And.intro (lw_ix (k := 1) h26 s26 hi hL (by decide)) ?_
  refine And.intro (lw_ix (k := 2) h26 s26 hi hL (by decide)) ?_
  refine And.intro (lw_ix (k := 3) h26 s26 hi hL (by decide)) ?_
  refine And.intro (lw_ix (k := 4) h26 s26 hi hL (by decide)) ?_
  refine And.intro (lw_ix (k := 5) h26 s26 hi hL (by decide)) ?_
  refine asCal ?_
  rw [s26]
  refine Cal.k 3 307 (c2 := 8 * m + 5) (s2 := 400 * m + 93) (by omega) (by omega) (c_look hc hv.1 hM.2.2.1.2.1 (fun G1 h1 hc1 hx1 => ?_))
  have hM1 := hM.ox hx1
  refine Ex.scr hc1 hM1 (fun h1 hc1 hM1 h26 s26 => ?_)
  refine go ok_L_law ?_
  refine And.intro (lw_ix (k := 1) h26 s26 hi hL (by decide)) ?_
  refine And.intro (lw_ix (k := 2) h26 s26 hi hL (by decide)) ?_
  refine And.intro (lw_ix (k := 3) h26 s26 hi hL (by decide)) ?_
  refine And.intro (lw_ix (k := 4) h26 s26 hi hL (by decide)) ?_
  refine And.intro (lw_ix (k := 5) h26 s26 hi hL (by decide)) ?_
  refine asCal ?_
  rw [s26]
  refine Cal.z (r_look hM1 hv.1 (fun h2 hM2 ho2 => ?_))
  refine Ex.om hc1 ho2 (fun hc2 => ?_)
  refine go ok_L_law ?_
  refine And.intro (fun _ => Ex.mono (by omega) (by omega) (K _ _ _ (iv_look hv _ _ _ _) hc2 hM2)) (fun c => absurd rfl c)
theorem law_told (hi : i + 6 ≤ (wS w).length) (hL : (wS w).length ≤ 3072) (hv : IV S) (hc : RC S G h) (hM : RM S h) (K : ∀ S' G' h', IV S' → RC S' G' h' → RM S' h' → Ex l w true mL_law (d + 29) Q 1228 (lwL i) [] h' (8 * m) (400 * m)) : Ex l w true mL_law (d + 29) Q 336 (lwL i) [] h (8 * m + 8) (400 * m + 400) := by
  refine Ex.scr hc hM (fun h hc hM h26 s26 => ?_)
  refine go ok_L_law ?_
  refine And.intro (lw_ix (k := 1) h26 s26 hi hL (by decide)) ?_
  refine And.intro (lw_ix (k := 2) h26 s26 hi hL (by decide)) ?_
  refine asCal ?_
  rw [s26]
  refine Cal.z (c_told hc hv.1 ?_)
  have hc1 := hc
  have hM1 := hM
  refine go ok_L_law ?_
  refine And.intro (lw_ix (k := 1) h26 s26 hi hL (by decide)) ?_
  refine And.intro (lw_ix (k := 2) h26 s26 hi hL (by decide)) ?_
  refine asCal ?_
  rw [s26]
  refine Cal.z (r_told hM1 ?_)
  have hM2 := hM1
  have hc2 := hc1
  refine go ok_L_law ?_
  refine And.intro (fun _ => Ex.mono (by omega) (by omega) (K _ _ _ (hv) hc2 hM2)) (fun c => absurd rfl c)
theorem law_pieces (hi : i + 6 ≤ (wS w).length) (hL : (wS w).length ≤ 3072) (hv : IV S) (hc : RC S G h) (hM : RM S h) (K : ∀ S' G' h', IV S' → RC S' G' h' → RM S' h' → Ex l w true mL_law (d + 29) Q 1228 (lwL i) [] h' (8 * m) (400 * m)) : Ex l w true mL_law (d + 29) Q 369 (lwL i) [] h (8 * m + 8) (400 * m + 400) := by
  refine Ex.scr hc hM (fun h hc hM h26 s26 => ?_)
  refine go ok_L_law ?_
  refine And.intro (lw_ix (k := 1) h26 s26 hi hL (by decide)) ?_
  refine asCal ?_
  rw [s26]
  refine Cal.z (c_pieces hc ?_)
  have hc1 := hc
  have hM1 := hM
  refine go ok_L_law ?_
  refine And.intro (lw_ix (k := 1) h26 s26 hi hL (by decide)) ?_
  refine asCal ?_
  rw [s26]
  refine Cal.z (r_pieces hM1 ?_)
  have hM2 := hM1
  have hc2 := hc1
  refine go ok_L_law ?_
  refine asAnd ?_
  rw [cmp_self]
  refine And.intro (fun _ => Ex.mono (by omega) (by omega) (K _ _ _ (hv) hc2 hM2)) (fun c => absurd rfl c)
theorem law_fault (hi : i + 6 ≤ (wS w).length) (hL : (wS w).length ≤ 3072) (hv : IV S) (hc : RC S G h) (hM : RM S h) (K : ∀ S' G' h', IV S' → RC S' G' h' → RM S' h' → Ex l w true mL_law (d + 29) Q 1228 (lwL i) [] h' (8 * m) (400 * m)) : Ex l w true mL_law (d + 29) Q 548 (lwL i) [] h (8 * m + 8) (400 * m + 400) := by
  refine go ok_L_law ?_
  refine asCal ?_
  refine Cal.z (c_fault hc ?_)
  have hc1 := hc
  have hM1 := hM
  refine go ok_L_law ?_
  refine asCal ?_
  refine Cal.z (r_fault hM1 ?_)
  have hM2 := hM1
  have hc2 := hc1
  refine go ok_L_law ?_
  refine And.intro (fun _ => Ex.mono (by omega) (by omega) (K _ _ _ (hv) hc2 hM2)) (fun c => absurd rfl c)
theorem law_plan (hi : i + 6 ≤ (wS w).length) (hL : (wS w).length ≤ 3072) (hv : IV S) (hc : RC S G h) (hM : RM S h) (K : ∀ S' G' h', IV S' → RC S' G' h' → RM S' h' → Ex l w true mL_law (d + 29) Q 1228 (lwL i) [] h' (8 * m) (400 * m)) : Ex l w true mL_law (d + 29) Q 861 (lwL i) [] h (8 * m + 8) (400 * m + 400) := by
  refine Ex.scr hc hM (fun h hc hM h26 s26 => ?_)
  refine go ok_L_law ?_
  refine And.intro (lw_ix (k := 1) h26 s26 hi hL (by decide)) ?_
  refine And.intro (lw_ix (k := 2) h26 s26 hi hL (by decide)) ?_
  refine asCal ?_
  rw [s26]
  refine Cal.z (c_plan hc hv.1 (fun h1 hc1 hx1 => ?_))
  have hM1 := hM.ox hx1
  refine Ex.scr hc1 hM1 (fun h1 hc1 hM1 h26 s26 => ?_)
  refine go ok_L_law ?_
  refine And.intro (lw_ix (k := 1) h26 s26 hi hL (by decide)) ?_
  refine And.intro (lw_ix (k := 2) h26 s26 hi hL (by decide)) ?_
  refine asCal ?_
  rw [s26]
  refine Cal.z (r_plan hM1 hv.1 (fun h2 hM2 ho2 => ?_))
  refine Ex.om hc1 ho2 (fun hc2 => ?_)
  refine go ok_L_law ?_
  refine And.intro (fun _ => Ex.mono (by omega) (by omega) (K _ _ _ (hv) hc2 hM2)) (fun c => absurd rfl c)
end LW

