/-! ===== the law: its calls ===== -/
abbrev lwL (i : Nat) : List (Option AV) := [some (vr 26), some (vr 32), some (vr 62), some (vi (nI i))]
section LW
variable {l : Launch} {w : WD} {d i m : Nat} {h : AH} {Q : Option AV → AH → Prop} {S : SG} {G : GH}
theorem lw_ix (h26 : hC h 26 = 106) (s26 : aI h 26 = wS w) (hi : i + 6 ≤ (wS w).length) (hL : (wS w).length ≤ 3072) {k : Nat} (hk : k < 6) : ixI h 26 (nI i + nI k) := by
  refine ⟨Or.inr h26, ?_⟩
  rw [s26, nI_add]
  exact ix_of rfl (by omega) (by omega)
theorem cmp_self (x : Int64) : lg_cmp x x = 0 := by
  unfold lg_cmp
  rw [if_neg (Int64.lt_irrefl), if_pos rfl]
set_option maxRecDepth 100000 in
theorem law_go (hi : i + 6 ≤ (wS w).length) (hL : (wS w).length ≤ 3072) (hv : IV S) (hc : RC S G h) (hM : RM S h) (K : ∀ S' G' h', IV S' → RC S' G' h' → RM S' h' → Ex l w true mL_law (d + 29) Q 1228 (lwL i) [] h' (8 * m) (400 * m)) : Ex l w true mL_law (d + 29) Q 184 (lwL i) [] h (8 * m + 8) (400 * m + 400) := by
  refine Ex.scr hc hM (fun h hc hM h26 s26 => ?_)
  refine go ok_L_law ?_
  refine And.intro (lw_ix (k := 1) h26 s26 hi hL (by decide)) ?_
  refine asCal ?_
  rw [s26]
  refine Cal.z (c_go hc (fun h1 hc1 hx1 => ?_))
  have hM1 := hM.ox hx1
  refine Ex.scr hc1 hM1 (fun h1 hc1 hM1 h26 s26 => ?_)
  refine go ok_L_law ?_
  refine And.intro (lw_ix (k := 1) h26 s26 hi hL (by decide)) ?_
  refine asCal ?_
  rw [s26]
  refine Cal.z (r_go hM1 (fun h2 hM2 ho2 => ?_))
  refine Ex.om hc1 ho2 (fun hc2 => ?_)
  refine go ok_L_law ?_
  refine And.intro (fun _ => Ex.mono (by omega) (by omega) (K _ _ _ (iv_go hv _) hc2 hM2)) (fun c => absurd rfl c)
set_option maxRecDepth 100000 in
theorem law_page (hi : i + 6 ≤ (wS w).length) (hL : (wS w).length ≤ 3072) (hv : IV S) (hc : RC S G h) (hM : RM S h) (K : ∀ S' G' h', IV S' → RC S' G' h' → RM S' h' → Ex l w true mL_law (d + 29) Q 1228 (lwL i) [] h' (8 * m) (400 * m)) : Ex l w true mL_law (d + 29) Q 207 (lwL i) [] h (8 * m + 8) (400 * m + 400) := by
  refine Ex.scr hc hM (fun h hc hM h26 s26 => ?_)
  refine go ok_L_law ?_
  refine And.intro (lw_ix (k := 1) h26 s26 hi hL (by decide)) ?_
  refine asCal ?_
  rw [s26]
  refine Cal.k 7 186 (c2 := 8 * m + 1) (s2 := 400 * m + 214) (by omega) (by omega) (c_page hc hv.1 hv.2 (fun G1 h1 hc1 hx1 => ?_))
  have hM1 := hM.ox hx1
  refine Ex.scr hc1 hM1 (fun h1 hc1 hM1 h26 s26 => ?_)
  refine go ok_L_law ?_
  refine And.intro (lw_ix (k := 1) h26 s26 hi hL (by decide)) ?_
  refine asCal ?_
  rw [s26]
  refine Cal.z (r_page hM1 (fun h2 hM2 ho2 => ?_))
  refine Ex.om hc1 ho2 (fun hc2 => ?_)
  refine go ok_L_law ?_
  refine And.intro (fun _ => Ex.mono (by omega) (by omega) (K _ _ _ (iv_page hv _) hc2 hM2)) (fun c => absurd rfl c)
set_option maxRecDepth 100000 in
theorem law_look (hi : i + 6 ≤ (wS w).length) (hL : (wS w).length ≤ 3072) (hv : IV S) (hc : RC S G h) (hM : RM S h) (K : ∀ S' G' h', IV S' → RC S' G' h' → RM S' h' → Ex l w true mL_law (d + 29) Q 1228 (lwL i) [] h' (8 * m) (400 * m)) : Ex l w true mL_law (d + 29) Q 230 (lwL i) [] h (8 * m + 8) (400 * m + 400) := by
  refine Ex.scr hc hM (fun h hc hM h26 s26 => ?_)
  refine go ok_L_law ?_
  refine And.intro (lw_ix (k := 1) h26 s26 hi hL (by decide)) ?_
  refine And.intro (lw_ix (k := 2) h26 s26 hi hL (by decide)) ?_
  refine And.intro (lw_ix (k := 3) h26 s26 hi hL (by decide)) ?_
  refine And.intro (lw_ix (k := 4) h26 s26 hi hL (by decide)) ?_
  refine And.intro (lw_ix (k := 5) h26 s26 hi hL (by decide)) ?_
  refine asCal ?_
  rw [s26]
  refine Cal.k 3 307 (c2 := 8 * m + 5) (s2 := 400 * m + 93) (by omega) (by omega) (c_look hc hv.1 hM.2.2.1.2.1 (fun G1 h1 hc1 hx1 => ?_))
  have hM1 := hM.ox hx1
  refine Ex.scr hc1 hM1 (fun h1 hc1 hM1 h26 s26 => ?_)
  refine go ok_L_law ?_
  refine And.intro (lw_ix (k := 1) h26 s26 hi hL (by decide)) ?_
  refine And.intro (lw_ix (k := 2) h26 s26 hi hL (by decide)) ?_
  refine And.intro (lw_ix (k := 3) h26 s26 hi hL (by decide)) ?_
  refine And.intro (lw_ix (k := 4) h26 s26 hi hL (by decide)) ?_
  refine And.intro (lw_ix (k := 5) h26 s26 hi hL (by decide)) ?_
  refine asCal ?_
  rw [s26]
  refine Cal.z (r_look hM1 hv.1 (fun h2 hM2 ho2 => ?_))
  refine Ex.om hc1 ho2 (fun hc2 => ?_)
  refine go ok_L_law ?_
  refine And.intro (fun _ => Ex.mono (by omega) (by omega) (K _ _ _ (iv_look hv _ _ _ _) hc2 hM2)) (fun c => absurd rfl c)
set_option maxRecDepth 100000 in
theorem law_take (hi : i + 6 ≤ (wS w).length) (hL : (wS w).length ≤ 3072) (hv : IV S) (hc : RC S G h) (hM : RM S h) (K : ∀ S' G' h', IV S' → RC S' G' h' → RM S' h' → Ex l w true mL_law (d + 29) Q 1228 (lwL i) [] h' (8 * m) (400 * m)) : Ex l w true mL_law (d + 29) Q 313 (lwL i) [] h (8 * m + 8) (400 * m + 400) := by
  refine Ex.scr hc hM (fun h hc hM h26 s26 => ?_)
  refine go ok_L_law ?_
  refine And.intro (lw_ix (k := 1) h26 s26 hi hL (by decide)) ?_
  refine asCal ?_
  rw [s26]
  refine Cal.z (c_take hc hv.1 (fun G1 h1 hc1 hx1 => ?_))
  have hM1 := hM.ox hx1
  refine Ex.scr hc1 hM1 (fun h1 hc1 hM1 h26 s26 => ?_)
  refine go ok_L_law ?_
  refine And.intro (lw_ix (k := 1) h26 s26 hi hL (by decide)) ?_
  refine asCal ?_
  rw [s26]
  refine Cal.z (r_take hM1 hv.1 (fun h2 hM2 ho2 => ?_))
  refine Ex.om hc1 ho2 (fun hc2 => ?_)
  refine go ok_L_law ?_
  refine And.intro (fun _ => Ex.mono (by omega) (by omega) (K _ _ _ (iv_take hv _) hc2 hM2)) (fun c => absurd rfl c)
set_option maxRecDepth 100000 in
theorem law_told (hi : i + 6 ≤ (wS w).length) (hL : (wS w).length ≤ 3072) (hv : IV S) (hc : RC S G h) (hM : RM S h) (K : ∀ S' G' h', IV S' → RC S' G' h' → RM S' h' → Ex l w true mL_law (d + 29) Q 1228 (lwL i) [] h' (8 * m) (400 * m)) : Ex l w true mL_law (d + 29) Q 336 (lwL i) [] h (8 * m + 8) (400 * m + 400) := by
  refine Ex.scr hc hM (fun h hc hM h26 s26 => ?_)
  refine go ok_L_law ?_
  refine And.intro (lw_ix (k := 1) h26 s26 hi hL (by decide)) ?_
  refine And.intro (lw_ix (k := 2) h26 s26 hi hL (by decide)) ?_
  refine asCal ?_
  rw [s26]
  refine Cal.z (c_told hc hv.1 ?_)
  have hc1 := hc
  have hM1 := hM
  refine go ok_L_law ?_
  refine And.intro (lw_ix (k := 1) h26 s26 hi hL (by decide)) ?_
  refine And.intro (lw_ix (k := 2) h26 s26 hi hL (by decide)) ?_
  refine asCal ?_
  rw [s26]
  refine Cal.z (r_told hM1 ?_)
  have hM2 := hM1
  have hc2 := hc1
  refine go ok_L_law ?_
  refine And.intro (fun _ => Ex.mono (by omega) (by omega) (K _ _ _ (hv) hc2 hM2)) (fun c => absurd rfl c)
set_option maxRecDepth 100000 in
theorem law_pieces (hi : i + 6 ≤ (wS w).length) (hL : (wS w).length ≤ 3072) (hv : IV S) (hc : RC S G h) (hM : RM S h) (K : ∀ S' G' h', IV S' → RC S' G' h' → RM S' h' → Ex l w true mL_law (d + 29) Q 1228 (lwL i) [] h' (8 * m) (400 * m)) : Ex l w true mL_law (d + 29) Q 369 (lwL i) [] h (8 * m + 8) (400 * m + 400) := by
  refine Ex.scr hc hM (fun h hc hM h26 s26 => ?_)
  refine go ok_L_law ?_
  refine And.intro (lw_ix (k := 1) h26 s26 hi hL (by decide)) ?_
  refine asCal ?_
  rw [s26]
  refine Cal.z (c_pieces hc ?_)
  have hc1 := hc
  have hM1 := hM
  refine go ok_L_law ?_
  refine And.intro (lw_ix (k := 1) h26 s26 hi hL (by decide)) ?_
  refine asCal ?_
  rw [s26]
  refine Cal.z (r_pieces hM1 ?_)
  have hM2 := hM1
  have hc2 := hc1
  refine go ok_L_law ?_
  refine asAnd ?_
  rw [cmp_self]
  refine And.intro (fun _ => Ex.mono (by omega) (by omega) (K _ _ _ (hv) hc2 hM2)) (fun c => absurd rfl c)
set_option maxRecDepth 100000 in
theorem law_view (hi : i + 6 ≤ (wS w).length) (hL : (wS w).length ≤ 3072) (hv : IV S) (hc : RC S G h) (hM : RM S h) (K : ∀ S' G' h', IV S' → RC S' G' h' → RM S' h' → Ex l w true mL_law (d + 29) Q 1228 (lwL i) [] h' (8 * m) (400 * m)) : Ex l w true mL_law (d + 29) Q 393 (lwL i) [] h (8 * m + 8) (400 * m + 400) := by
  refine Ex.scr hc hM (fun h hc hM h26 s26 => ?_)
  refine go ok_L_law ?_
  refine And.intro (lw_ix (k := 1) h26 s26 hi hL (by decide)) ?_
  refine And.intro (lw_ix (k := 2) h26 s26 hi hL (by decide)) ?_
  refine asCal ?_
  rw [s26]
  refine Cal.z (c_view hc ?_)
  have hc1 := hc
  have hM1 := hM
  refine go ok_L_law ?_
  refine And.intro (lw_ix (k := 1) h26 s26 hi hL (by decide)) ?_
  refine And.intro (lw_ix (k := 2) h26 s26 hi hL (by decide)) ?_
  refine asCal ?_
  rw [s26]
  refine Cal.z (r_view hM1 (fun h2 hM2 ho2 => ?_))
  refine Ex.om hc1 ho2 (fun hc2 => ?_)
  refine go ok_L_law ?_
  refine And.intro (fun _ => Ex.mono (by omega) (by omega) (K _ _ _ (hv) hc2 hM2)) (fun c => absurd rfl c)
set_option maxRecDepth 100000 in
theorem law_count (hi : i + 6 ≤ (wS w).length) (hL : (wS w).length ≤ 3072) (hv : IV S) (hc : RC S G h) (hM : RM S h) (K : ∀ S' G' h', IV S' → RC S' G' h' → RM S' h' → Ex l w true mL_law (d + 29) Q 1228 (lwL i) [] h' (8 * m) (400 * m)) : Ex l w true mL_law (d + 29) Q 426 (lwL i) [] h (8 * m + 8) (400 * m + 400) := by
  refine Ex.scr hc hM (fun h hc hM h26 s26 => ?_)
  refine go ok_L_law ?_
  refine And.intro (lw_ix (k := 1) h26 s26 hi hL (by decide)) ?_
  refine asCal ?_
  rw [s26]
  refine Cal.z (c_count hc hv.1 ?_)
  have hc1 := hc
  have hM1 := hM
  refine go ok_L_law ?_
  refine And.intro (lw_ix (k := 1) h26 s26 hi hL (by decide)) ?_
  refine asCal ?_
  rw [s26]
  refine Cal.z (r_count hM1 ?_)
  have hM2 := hM1
  have hc2 := hc1
  refine go ok_L_law ?_
  refine And.intro (fun _ => Ex.mono (by omega) (by omega) (K _ _ _ (hv) hc2 hM2)) (fun c => absurd rfl c)
set_option maxRecDepth 100000 in
theorem law_feed (hi : i + 6 ≤ (wS w).length) (hL : (wS w).length ≤ 3072) (hv : IV S) (hc : RC S G h) (hM : RM S h) (K : ∀ S' G' h', IV S' → RC S' G' h' → RM S' h' → Ex l w true mL_law (d + 29) Q 1228 (lwL i) [] h' (8 * m) (400 * m)) : Ex l w true mL_law (d + 29) Q 449 (lwL i) [] h (8 * m + 8) (400 * m + 400) := by
  refine Ex.scr hc hM (fun h hc hM h26 s26 => ?_)
  refine go ok_L_law ?_
  refine And.intro (lw_ix (k := 1) h26 s26 hi hL (by decide)) ?_
  refine And.intro (lw_ix (k := 2) h26 s26 hi hL (by decide)) ?_
  refine And.intro (lw_ix (k := 3) h26 s26 hi hL (by decide)) ?_
  refine asCal ?_
  rw [s26]
  refine Cal.z (c_feed hc (fun h1 hc1 hx1 => ?_))
  have hM1 := hM.ox hx1
  refine Ex.scr hc1 hM1 (fun h1 hc1 hM1 h26 s26 => ?_)
  refine go ok_L_law ?_
  refine And.intro (lw_ix (k := 1) h26 s26 hi hL (by decide)) ?_
  refine And.intro (lw_ix (k := 2) h26 s26 hi hL (by decide)) ?_
  refine And.intro (lw_ix (k := 3) h26 s26 hi hL (by decide)) ?_
  refine asCal ?_
  rw [s26]
  refine Cal.z (r_feed hM1 (fun h2 hM2 ho2 => ?_))
  refine Ex.om hc1 ho2 (fun hc2 => ?_)
  refine go ok_L_law ?_
  refine And.intro (fun _ => Ex.mono (by omega) (by omega) (K _ _ _ (iv_feed hv _ _) hc2 hM2)) (fun c => absurd rfl c)
set_option maxRecDepth 100000 in
theorem law_read (hi : i + 6 ≤ (wS w).length) (hL : (wS w).length ≤ 3072) (hv : IV S) (hc : RC S G h) (hM : RM S h) (K : ∀ S' G' h', IV S' → RC S' G' h' → RM S' h' → Ex l w true mL_law (d + 29) Q 1228 (lwL i) [] h' (8 * m) (400 * m)) : Ex l w true mL_law (d + 29) Q 512 (lwL i) [] h (8 * m + 8) (400 * m + 400) := by
  refine go ok_L_law ?_
  refine asCal ?_
  refine Cal.z (c_read hc (fun h1 hc1 hx1 => ?_))
  have hM1 := hM.ox hx1
  refine go ok_L_law ?_
  refine asCal ?_
  refine Cal.z (r_read hM1 hv.1 (fun h2 hM2 ho2 => ?_))
  refine Ex.om hc1 ho2 (fun hc2 => ?_)
  refine go ok_L_law ?_
  refine And.intro (fun _ => Ex.mono (by omega) (by omega) (K _ _ _ (iv_read hv) hc2 hM2)) (fun c => absurd rfl c)
set_option maxRecDepth 100000 in
theorem law_program (hi : i + 6 ≤ (wS w).length) (hL : (wS w).length ≤ 3072) (hv : IV S) (hc : RC S G h) (hM : RM S h) (K : ∀ S' G' h', IV S' → RC S' G' h' → RM S' h' → Ex l w true mL_law (d + 29) Q 1228 (lwL i) [] h' (8 * m) (400 * m)) : Ex l w true mL_law (d + 29) Q 525 (lwL i) [] h (8 * m + 8) (400 * m + 400) := by
  refine Ex.scr hc hM (fun h hc hM h26 s26 => ?_)
  refine go ok_L_law ?_
  refine And.intro (lw_ix (k := 1) h26 s26 hi hL (by decide)) ?_
  refine asCal ?_
  rw [s26]
  refine Cal.z (c_program hc hv.1.2.2.2.2.2.2.2.1.1 (fun G1 h1 hc1 hx1 => ?_))
  have hM1 := hM.ox hx1
  refine Ex.scr hc1 hM1 (fun h1 hc1 hM1 h26 s26 => ?_)
  refine go ok_L_law ?_
  refine And.intro (lw_ix (k := 1) h26 s26 hi hL (by decide)) ?_
  refine asCal ?_
  rw [s26]
  refine Cal.z (r_program hM1 hv.1 (fun h2 hM2 ho2 => ?_))
  refine Ex.om hc1 ho2 (fun hc2 => ?_)
  refine go ok_L_law ?_
  refine And.intro (fun _ => Ex.mono (by omega) (by omega) (K _ _ _ (iv_program hv _) hc2 hM2)) (fun c => absurd rfl c)
set_option maxRecDepth 100000 in
theorem law_fault (hi : i + 6 ≤ (wS w).length) (hL : (wS w).length ≤ 3072) (hv : IV S) (hc : RC S G h) (hM : RM S h) (K : ∀ S' G' h', IV S' → RC S' G' h' → RM S' h' → Ex l w true mL_law (d + 29) Q 1228 (lwL i) [] h' (8 * m) (400 * m)) : Ex l w true mL_law (d + 29) Q 548 (lwL i) [] h (8 * m + 8) (400 * m + 400) := by
  refine go ok_L_law ?_
  refine asCal ?_
  refine Cal.z (c_fault hc ?_)
  have hc1 := hc
  have hM1 := hM
  refine go ok_L_law ?_
  refine asCal ?_
  refine Cal.z (r_fault hM1 ?_)
  have hM2 := hM1
  have hc2 := hc1
  refine go ok_L_law ?_
  refine And.intro (fun _ => Ex.mono (by omega) (by omega) (K _ _ _ (hv) hc2 hM2)) (fun c => absurd rfl c)
set_option maxRecDepth 100000 in
theorem law_right (hi : i + 6 ≤ (wS w).length) (hL : (wS w).length ≤ 3072) (hv : IV S) (hc : RC S G h) (hM : RM S h) (K : ∀ S' G' h', IV S' → RC S' G' h' → RM S' h' → Ex l w true mL_law (d + 29) Q 1228 (lwL i) [] h' (8 * m) (400 * m)) : Ex l w true mL_law (d + 29) Q 561 (lwL i) [] h (8 * m + 8) (400 * m + 400) := by
  refine Ex.scr hc hM (fun h hc hM h26 s26 => ?_)
  refine go ok_L_law ?_
  refine And.intro (lw_ix (k := 1) h26 s26 hi hL (by decide)) ?_
  refine asCal ?_
  rw [s26]
  refine Cal.z (c_right hc ?_)
  have hc1 := hc
  have hM1 := hM
  refine go ok_L_law ?_
  refine And.intro (lw_ix (k := 1) h26 s26 hi hL (by decide)) ?_
  refine asCal ?_
  rw [s26]
  refine Cal.z (r_right hM1 ?_)
  have hM2 := hM1
  have hc2 := hc1
  refine go ok_L_law ?_
  refine And.intro (fun _ => Ex.mono (by omega) (by omega) (K _ _ _ (hv) hc2 hM2)) (fun c => absurd rfl c)
set_option maxRecDepth 100000 in
theorem law_alike (hi : i + 6 ≤ (wS w).length) (hL : (wS w).length ≤ 3072) (hv : IV S) (hc : RC S G h) (hM : RM S h) (K : ∀ S' G' h', IV S' → RC S' G' h' → RM S' h' → Ex l w true mL_law (d + 29) Q 1228 (lwL i) [] h' (8 * m) (400 * m)) : Ex l w true mL_law (d + 29) Q 584 (lwL i) [] h (8 * m + 8) (400 * m + 400) := by
  refine Ex.scr hc hM (fun h hc hM h26 s26 => ?_)
  refine go ok_L_law ?_
  refine And.intro (lw_ix (k := 1) h26 s26 hi hL (by decide)) ?_
  refine And.intro (lw_ix (k := 2) h26 s26 hi hL (by decide)) ?_
  refine asCal ?_
  rw [s26]
  refine Cal.z (c_alike hc hv.1 ?_)
  have hc1 := hc
  have hM1 := hM
  refine go ok_L_law ?_
  refine And.intro (lw_ix (k := 1) h26 s26 hi hL (by decide)) ?_
  refine And.intro (lw_ix (k := 2) h26 s26 hi hL (by decide)) ?_
  refine asCal ?_
  rw [s26]
  refine Cal.z (r_alike hM1 ?_)
  have hM2 := hM1
  have hc2 := hc1
  refine go ok_L_law ?_
  refine And.intro (fun _ => Ex.mono (by omega) (by omega) (K _ _ _ (hv) hc2 hM2)) (fun c => absurd rfl c)
set_option maxRecDepth 100000 in
theorem law_sure (hi : i + 6 ≤ (wS w).length) (hL : (wS w).length ≤ 3072) (hv : IV S) (hc : RC S G h) (hM : RM S h) (K : ∀ S' G' h', IV S' → RC S' G' h' → RM S' h' → Ex l w true mL_law (d + 29) Q 1228 (lwL i) [] h' (8 * m) (400 * m)) : Ex l w true mL_law (d + 29) Q 617 (lwL i) [] h (8 * m + 8) (400 * m + 400) := by
  refine Ex.scr hc hM (fun h hc hM h26 s26 => ?_)
  refine go ok_L_law ?_
  refine And.intro (lw_ix (k := 1) h26 s26 hi hL (by decide)) ?_
  refine And.intro (lw_ix (k := 2) h26 s26 hi hL (by decide)) ?_
  refine asCal ?_
  rw [s26]
  refine Cal.z (c_sure hc hv.1 ?_)
  have hc1 := hc
  have hM1 := hM
  refine go ok_L_law ?_
  refine And.intro (lw_ix (k := 1) h26 s26 hi hL (by decide)) ?_
  refine And.intro (lw_ix (k := 2) h26 s26 hi hL (by decide)) ?_
  refine asCal ?_
  rw [s26]
  refine Cal.z (r_sure hM1 (fun h2 hM2 ho2 => ?_))
  refine Ex.om hc1 ho2 (fun hc2 => ?_)
  refine go ok_L_law ?_
  refine And.intro (fun _ => Ex.mono (by omega) (by omega) (K _ _ _ (hv) hc2 hM2)) (fun c => absurd rfl c)
set_option maxRecDepth 100000 in
theorem law_state (hi : i + 6 ≤ (wS w).length) (hL : (wS w).length ≤ 3072) (hv : IV S) (hc : RC S G h) (hM : RM S h) (K : ∀ S' G' h', IV S' → RC S' G' h' → RM S' h' → Ex l w true mL_law (d + 29) Q 1228 (lwL i) [] h' (8 * m) (400 * m)) : Ex l w true mL_law (d + 29) Q 650 (lwL i) [] h (8 * m + 8) (400 * m + 400) := by
  refine Ex.scr hc hM (fun h hc hM h26 s26 => ?_)
  refine go ok_L_law ?_
  refine And.intro (lw_ix (k := 1) h26 s26 hi hL (by decide)) ?_
  refine And.intro (lw_ix (k := 2) h26 s26 hi hL (by decide)) ?_
  refine asCal ?_
  rw [s26]
  refine Cal.z (c_state hc hv.1 ?_)
  have hc1 := hc
  have hM1 := hM
  refine go ok_L_law ?_
  refine And.intro (lw_ix (k := 1) h26 s26 hi hL (by decide)) ?_
  refine And.intro (lw_ix (k := 2) h26 s26 hi hL (by decide)) ?_
  refine asCal ?_
  rw [s26]
  refine Cal.z (r_state hM1 (fun h2 hM2 ho2 => ?_))
  refine Ex.om hc1 ho2 (fun hc2 => ?_)
  refine go ok_L_law ?_
  refine And.intro (fun _ => Ex.mono (by omega) (by omega) (K _ _ _ (hv) hc2 hM2)) (fun c => absurd rfl c)
set_option maxRecDepth 100000 in
theorem law_hours (hi : i + 6 ≤ (wS w).length) (hL : (wS w).length ≤ 3072) (hv : IV S) (hc : RC S G h) (hM : RM S h) (K : ∀ S' G' h', IV S' → RC S' G' h' → RM S' h' → Ex l w true mL_law (d + 29) Q 1228 (lwL i) [] h' (8 * m) (400 * m)) : Ex l w true mL_law (d + 29) Q 683 (lwL i) [] h (8 * m + 8) (400 * m + 400) := by
  refine Ex.scr hc hM (fun h hc hM h26 s26 => ?_)
  refine go ok_L_law ?_
  refine And.intro (lw_ix (k := 1) h26 s26 hi hL (by decide)) ?_
  refine And.intro (lw_ix (k := 2) h26 s26 hi hL (by decide)) ?_
  refine And.intro (lw_ix (k := 3) h26 s26 hi hL (by decide)) ?_
  refine And.intro (lw_ix (k := 4) h26 s26 hi hL (by decide)) ?_
  refine asCal ?_
  rw [s26]
  refine Cal.z (c_hours hc hv.1 ?_)
  have hc1 := hc
  have hM1 := hM
  refine go ok_L_law ?_
  refine And.intro (lw_ix (k := 1) h26 s26 hi hL (by decide)) ?_
  refine And.intro (lw_ix (k := 2) h26 s26 hi hL (by decide)) ?_
  refine And.intro (lw_ix (k := 3) h26 s26 hi hL (by decide)) ?_
  refine And.intro (lw_ix (k := 4) h26 s26 hi hL (by decide)) ?_
  refine asCal ?_
  rw [s26]
  refine Cal.z (r_hours hM1 hv.1 (fun h2 hM2 ho2 => ?_))
  refine Ex.om hc1 ho2 (fun hc2 => ?_)
  refine go ok_L_law ?_
  refine And.intro (fun _ => Ex.mono (by omega) (by omega) (K _ _ _ (hv) hc2 hM2)) (fun c => absurd rfl c)
set_option maxRecDepth 100000 in
theorem law_part (hi : i + 6 ≤ (wS w).length) (hL : (wS w).length ≤ 3072) (hv : IV S) (hc : RC S G h) (hM : RM S h) (K : ∀ S' G' h', IV S' → RC S' G' h' → RM S' h' → Ex l w true mL_law (d + 29) Q 1228 (lwL i) [] h' (8 * m) (400 * m)) : Ex l w true mL_law (d + 29) Q 736 (lwL i) [] h (8 * m + 8) (400 * m + 400) := by
  refine Ex.scr hc hM (fun h hc hM h26 s26 => ?_)
  refine go ok_L_law ?_
  refine And.intro (lw_ix (k := 1) h26 s26 hi hL (by decide)) ?_
  refine asCal ?_
  rw [s26]
  refine Cal.k 1 150 (c2 := 8 * m + 7) (s2 := 400 * m + 250) (by omega) (by omega) (c_part hc hv.1 hM.2.2.2.2.2.2.2.2.2.1 (fun G1 h1 hc1 hx1 => ?_))
  have hM1 := hM.ox hx1
  refine Ex.scr hc1 hM1 (fun h1 hc1 hM1 h26 s26 => ?_)
  refine go ok_L_law ?_
  refine And.intro (lw_ix (k := 1) h26 s26 hi hL (by decide)) ?_
  refine asCal ?_
  rw [s26]
  refine Cal.z (r_part hM1 hv.1 (fun h2 hM2 ho2 => ?_))
  refine Ex.om hc1 ho2 (fun hc2 => ?_)
  refine go ok_L_law ?_
  refine And.intro (fun _ => Ex.mono (by omega) (by omega) (K _ _ _ (iv_part hv _) hc2 hM2)) (fun c => absurd rfl c)
set_option maxRecDepth 100000 in
theorem law_wipe (hi : i + 6 ≤ (wS w).length) (hL : (wS w).length ≤ 3072) (hv : IV S) (hc : RC S G h) (hM : RM S h) (K : ∀ S' G' h', IV S' → RC S' G' h' → RM S' h' → Ex l w true mL_law (d + 29) Q 1228 (lwL i) [] h' (8 * m) (400 * m)) : Ex l w true mL_law (d + 29) Q 759 (lwL i) [] h (8 * m + 8) (400 * m + 400) := by
  refine go ok_L_law ?_
  refine asCal ?_
  refine Cal.z (c_wipe hc (fun G1 h1 hc1 hx1 => ?_))
  have hM1 := hM.ox hx1
  refine go ok_L_law ?_
  refine asCal ?_
  refine Cal.z (r_wipe hM1 (fun h2 hM2 ho2 => ?_))
  refine Ex.om hc1 ho2 (fun hc2 => ?_)
  refine go ok_L_law ?_
  refine And.intro (fun _ => Ex.mono (by omega) (by omega) (K _ _ _ (iv_wipe hv) hc2 hM2)) (fun c => absurd rfl c)
set_option maxRecDepth 100000 in
theorem law_whole (hi : i + 6 ≤ (wS w).length) (hL : (wS w).length ≤ 3072) (hv : IV S) (hc : RC S G h) (hM : RM S h) (K : ∀ S' G' h', IV S' → RC S' G' h' → RM S' h' → Ex l w true mL_law (d + 29) Q 1228 (lwL i) [] h' (8 * m) (400 * m)) : Ex l w true mL_law (d + 29) Q 772 (lwL i) [] h (8 * m + 8) (400 * m + 400) := by
  refine Ex.scr hc hM (fun h hc hM h26 s26 => ?_)
  refine go ok_L_law ?_
  refine And.intro (lw_ix (k := 1) h26 s26 hi hL (by decide)) ?_
  refine asCal ?_
  rw [s26]
  refine Cal.z (c_whole hc hv.1 hM.2.2.2.2.2.2.2.2.2.1 (fun h1 hc1 hx1 => ?_))
  have hM1 := hM.ox hx1
  refine Ex.scr hc1 hM1 (fun h1 hc1 hM1 h26 s26 => ?_)
  refine go ok_L_law ?_
  refine And.intro (lw_ix (k := 1) h26 s26 hi hL (by decide)) ?_
  refine asCal ?_
  rw [s26]
  refine Cal.z (r_whole hM1 hv.1 (fun h2 hM2 ho2 => ?_))
  refine Ex.om hc1 ho2 (fun hc2 => ?_)
  refine go ok_L_law ?_
  refine And.intro (fun _ => Ex.mono (by omega) (by omega) (K _ _ _ (hv) hc2 hM2)) (fun c => absurd rfl c)
set_option maxRecDepth 100000 in
theorem law_bothWays (hi : i + 6 ≤ (wS w).length) (hL : (wS w).length ≤ 3072) (hv : IV S) (hc : RC S G h) (hM : RM S h) (K : ∀ S' G' h', IV S' → RC S' G' h' → RM S' h' → Ex l w true mL_law (d + 29) Q 1228 (lwL i) [] h' (8 * m) (400 * m)) : Ex l w true mL_law (d + 29) Q 795 (lwL i) [] h (8 * m + 8) (400 * m + 400) := by
  refine Ex.scr hc hM (fun h hc hM h26 s26 => ?_)
  refine go ok_L_law ?_
  refine And.intro (lw_ix (k := 1) h26 s26 hi hL (by decide)) ?_
  refine And.intro (lw_ix (k := 2) h26 s26 hi hL (by decide)) ?_
  refine And.intro (lw_ix (k := 3) h26 s26 hi hL (by decide)) ?_
  refine asCal ?_
  rw [s26]
  refine Cal.z (c_bothWays hc hv.1 ?_)
  have hc1 := hc
  have hM1 := hM
  refine go ok_L_law ?_
  refine And.intro (lw_ix (k := 1) h26 s26 hi hL (by decide)) ?_
  refine And.intro (lw_ix (k := 2) h26 s26 hi hL (by decide)) ?_
  refine And.intro (lw_ix (k := 3) h26 s26 hi hL (by decide)) ?_
  refine asCal ?_
  rw [s26]
  refine Cal.z (r_bothWays hM1 hv.1 (fun h2 hM2 ho2 => ?_))
  refine Ex.om hc1 ho2 (fun hc2 => ?_)
  refine go ok_L_law ?_
  refine And.intro (fun _ => Ex.mono (by omega) (by omega) (K _ _ _ (hv) hc2 hM2)) (fun c => absurd rfl c)
set_option maxRecDepth 100000 in
theorem law_rate (hi : i + 6 ≤ (wS w).length) (hL : (wS w).length ≤ 3072) (hv : IV S) (hc : RC S G h) (hM : RM S h) (K : ∀ S' G' h', IV S' → RC S' G' h' → RM S' h' → Ex l w true mL_law (d + 29) Q 1228 (lwL i) [] h' (8 * m) (400 * m)) : Ex l w true mL_law (d + 29) Q 838 (lwL i) [] h (8 * m + 8) (400 * m + 400) := by
  refine Ex.scr hc hM (fun h hc hM h26 s26 => ?_)
  refine go ok_L_law ?_
  refine And.intro (lw_ix (k := 1) h26 s26 hi hL (by decide)) ?_
  refine asCal ?_
  rw [s26]
  refine Cal.z (c_rate hc hv.1 ?_)
  have hc1 := hc
  have hM1 := hM
  refine go ok_L_law ?_
  refine And.intro (lw_ix (k := 1) h26 s26 hi hL (by decide)) ?_
  refine asCal ?_
  rw [s26]
  refine Cal.z (r_rate hM1 (fun h2 hM2 ho2 => ?_))
  refine Ex.om hc1 ho2 (fun hc2 => ?_)
  refine go ok_L_law ?_
  refine And.intro (fun _ => Ex.mono (by omega) (by omega) (K _ _ _ (hv) hc2 hM2)) (fun c => absurd rfl c)
set_option maxRecDepth 100000 in
theorem law_plan (hi : i + 6 ≤ (wS w).length) (hL : (wS w).length ≤ 3072) (hv : IV S) (hc : RC S G h) (hM : RM S h) (K : ∀ S' G' h', IV S' → RC S' G' h' → RM S' h' → Ex l w true mL_law (d + 29) Q 1228 (lwL i) [] h' (8 * m) (400 * m)) : Ex l w true mL_law (d + 29) Q 861 (lwL i) [] h (8 * m + 8) (400 * m + 400) := by
  refine Ex.scr hc hM (fun h hc hM h26 s26 => ?_)
  refine go ok_L_law ?_
  refine And.intro (lw_ix (k := 1) h26 s26 hi hL (by decide)) ?_
  refine And.intro (lw_ix (k := 2) h26 s26 hi hL (by decide)) ?_
  refine asCal ?_
  rw [s26]
  refine Cal.z (c_plan hc hv.1 (fun h1 hc1 hx1 => ?_))
  have hM1 := hM.ox hx1
  refine Ex.scr hc1 hM1 (fun h1 hc1 hM1 h26 s26 => ?_)
  refine go ok_L_law ?_
  refine And.intro (lw_ix (k := 1) h26 s26 hi hL (by decide)) ?_
  refine And.intro (lw_ix (k := 2) h26 s26 hi hL (by decide)) ?_
  refine asCal ?_
  rw [s26]
  refine Cal.z (r_plan hM1 hv.1 (fun h2 hM2 ho2 => ?_))
  refine Ex.om hc1 ho2 (fun hc2 => ?_)
  refine go ok_L_law ?_
  refine And.intro (fun _ => Ex.mono (by omega) (by omega) (K _ _ _ (hv) hc2 hM2)) (fun c => absurd rfl c)
set_option maxRecDepth 100000 in
theorem law_links (hi : i + 6 ≤ (wS w).length) (hL : (wS w).length ≤ 3072) (hv : IV S) (hc : RC S G h) (hM : RM S h) (K : ∀ S' G' h', IV S' → RC S' G' h' → RM S' h' → Ex l w true mL_law (d + 29) Q 1228 (lwL i) [] h' (8 * m) (400 * m)) : Ex l w true mL_law (d + 29) Q 894 (lwL i) [] h (8 * m + 8) (400 * m + 400) := by
  refine Ex.scr hc hM (fun h hc hM h26 s26 => ?_)
  refine go ok_L_law ?_
  refine And.intro (lw_ix (k := 1) h26 s26 hi hL (by decide)) ?_
  refine And.intro (lw_ix (k := 2) h26 s26 hi hL (by decide)) ?_
  refine And.intro (lw_ix (k := 3) h26 s26 hi hL (by decide)) ?_
  refine asCal ?_
  rw [s26]
  refine Cal.z (c_links hc hv.1 ?_)
  have hc1 := hc
  have hM1 := hM
  refine go ok_L_law ?_
  refine And.intro (lw_ix (k := 1) h26 s26 hi hL (by decide)) ?_
  refine And.intro (lw_ix (k := 2) h26 s26 hi hL (by decide)) ?_
  refine And.intro (lw_ix (k := 3) h26 s26 hi hL (by decide)) ?_
  refine asCal ?_
  rw [s26]
  refine Cal.z (r_links hM1 ?_)
  have hM2 := hM1
  have hc2 := hc1
  refine go ok_L_law ?_
  refine And.intro (fun _ => Ex.mono (by omega) (by omega) (K _ _ _ (hv) hc2 hM2)) (fun c => absurd rfl c)
set_option maxRecDepth 100000 in
theorem law_more (hi : i + 6 ≤ (wS w).length) (hL : (wS w).length ≤ 3072) (hv : IV S) (hc : RC S G h) (hM : RM S h) (K : ∀ S' G' h', IV S' → RC S' G' h' → RM S' h' → Ex l w true mL_law (d + 29) Q 1228 (lwL i) [] h' (8 * m) (400 * m)) : Ex l w true mL_law (d + 29) Q 937 (lwL i) [] h (8 * m + 8) (400 * m + 400) := by
  refine Ex.scr hc hM (fun h hc hM h26 s26 => ?_)
  refine go ok_L_law ?_
  refine And.intro (lw_ix (k := 1) h26 s26 hi hL (by decide)) ?_
  refine And.intro (lw_ix (k := 2) h26 s26 hi hL (by decide)) ?_
  refine asCal ?_
  rw [s26]
  refine Cal.z (c_more hc hv.1 ?_)
  have hc1 := hc
  have hM1 := hM
  refine go ok_L_law ?_
  refine And.intro (lw_ix (k := 1) h26 s26 hi hL (by decide)) ?_
  refine And.intro (lw_ix (k := 2) h26 s26 hi hL (by decide)) ?_
  refine asCal ?_
  rw [s26]
  refine Cal.z (r_more hM1 ?_)
  have hM2 := hM1
  have hc2 := hc1
  refine go ok_L_law ?_
  refine And.intro (fun _ => Ex.mono (by omega) (by omega) (K _ _ _ (hv) hc2 hM2)) (fun c => absurd rfl c)
set_option maxRecDepth 100000 in
theorem law_likeness (hi : i + 6 ≤ (wS w).length) (hL : (wS w).length ≤ 3072) (hv : IV S) (hc : RC S G h) (hM : RM S h) (K : ∀ S' G' h', IV S' → RC S' G' h' → RM S' h' → Ex l w true mL_law (d + 29) Q 1228 (lwL i) [] h' (8 * m) (400 * m)) : Ex l w true mL_law (d + 29) Q 970 (lwL i) [] h (8 * m + 8) (400 * m + 400) := by
  refine Ex.scr hc hM (fun h hc hM h26 s26 => ?_)
  refine go ok_L_law ?_
  refine And.intro (lw_ix (k := 1) h26 s26 hi hL (by decide)) ?_
  refine And.intro (lw_ix (k := 2) h26 s26 hi hL (by decide)) ?_
  refine asCal ?_
  rw [s26]
  refine Cal.z (c_likeness hc ?_)
  have hc1 := hc
  have hM1 := hM
  refine go ok_L_law ?_
  refine And.intro (lw_ix (k := 1) h26 s26 hi hL (by decide)) ?_
  refine And.intro (lw_ix (k := 2) h26 s26 hi hL (by decide)) ?_
  refine asCal ?_
  rw [s26]
  refine Cal.z (r_likeness hM1 ?_)
  have hM2 := hM1
  have hc2 := hc1
  refine go ok_L_law ?_
  refine And.intro (fun _ => Ex.mono (by omega) (by omega) (K _ _ _ (hv) hc2 hM2)) (fun c => absurd rfl c)
set_option maxRecDepth 100000 in
theorem law_moved (hi : i + 6 ≤ (wS w).length) (hL : (wS w).length ≤ 3072) (hv : IV S) (hc : RC S G h) (hM : RM S h) (K : ∀ S' G' h', IV S' → RC S' G' h' → RM S' h' → Ex l w true mL_law (d + 29) Q 1228 (lwL i) [] h' (8 * m) (400 * m)) : Ex l w true mL_law (d + 29) Q 1003 (lwL i) [] h (8 * m + 8) (400 * m + 400) := by
  refine Ex.scr hc hM (fun h hc hM h26 s26 => ?_)
  refine go ok_L_law ?_
  refine And.intro (lw_ix (k := 1) h26 s26 hi hL (by decide)) ?_
  refine asCal ?_
  rw [s26]
  refine Cal.z (c_moved hc hv.1 ?_)
  have hc1 := hc
  have hM1 := hM
  refine go ok_L_law ?_
  refine And.intro (lw_ix (k := 1) h26 s26 hi hL (by decide)) ?_
  refine asCal ?_
  rw [s26]
  refine Cal.z (r_moved hM1 (fun h2 hM2 ho2 => ?_))
  refine Ex.om hc1 ho2 (fun hc2 => ?_)
  refine go ok_L_law ?_
  refine And.intro (fun _ => Ex.mono (by omega) (by omega) (K _ _ _ (hv) hc2 hM2)) (fun c => absurd rfl c)
set_option maxRecDepth 100000 in
theorem law_lose (hi : i + 6 ≤ (wS w).length) (hL : (wS w).length ≤ 3072) (hv : IV S) (hc : RC S G h) (hM : RM S h) (K : ∀ S' G' h', IV S' → RC S' G' h' → RM S' h' → Ex l w true mL_law (d + 29) Q 1228 (lwL i) [] h' (8 * m) (400 * m)) : Ex l w true mL_law (d + 29) Q 1026 (lwL i) [] h (8 * m + 8) (400 * m + 400) := by
  refine Ex.scr hc hM (fun h hc hM h26 s26 => ?_)
  refine go ok_L_law ?_
  refine And.intro (lw_ix (k := 1) h26 s26 hi hL (by decide)) ?_
  refine And.intro (lw_ix (k := 2) h26 s26 hi hL (by decide)) ?_
  refine asCal ?_
  rw [s26]
  refine Cal.z (c_lose hc (fun h1 hc1 hx1 => ?_))
  have hM1 := hM.ox hx1
  refine Ex.scr hc1 hM1 (fun h1 hc1 hM1 h26 s26 => ?_)
  refine go ok_L_law ?_
  refine And.intro (lw_ix (k := 1) h26 s26 hi hL (by decide)) ?_
  refine And.intro (lw_ix (k := 2) h26 s26 hi hL (by decide)) ?_
  refine asCal ?_
  rw [s26]
  refine Cal.z (r_lose hM1 (fun h2 hM2 ho2 => ?_))
  refine Ex.om hc1 ho2 (fun hc2 => ?_)
  refine go ok_L_law ?_
  refine And.intro (fun _ => Ex.mono (by omega) (by omega) (K _ _ _ (iv_lose hv _ _) hc2 hM2)) (fun c => absurd rfl c)
set_option maxRecDepth 100000 in
theorem law_words (hi : i + 6 ≤ (wS w).length) (hL : (wS w).length ≤ 3072) (hv : IV S) (hc : RC S G h) (hM : RM S h) (K : ∀ S' G' h', IV S' → RC S' G' h' → RM S' h' → Ex l w true mL_law (d + 29) Q 1228 (lwL i) [] h' (8 * m) (400 * m)) : Ex l w true mL_law (d + 29) Q 1059 (lwL i) [] h (8 * m + 8) (400 * m + 400) := by
  refine Ex.scr hc hM (fun h hc hM h26 s26 => ?_)
  refine go ok_L_law ?_
  refine And.intro (lw_ix (k := 1) h26 s26 hi hL (by decide)) ?_
  refine And.intro (lw_ix (k := 2) h26 s26 hi hL (by decide)) ?_
  refine asCal ?_
  rw [s26]
  refine Cal.z (c_words hc ?_)
  have hc1 := hc
  have hM1 := hM
  refine go ok_L_law ?_
  refine And.intro (lw_ix (k := 1) h26 s26 hi hL (by decide)) ?_
  refine And.intro (lw_ix (k := 2) h26 s26 hi hL (by decide)) ?_
  refine asCal ?_
  rw [s26]
  refine Cal.z (r_words hM1 ?_)
  have hM2 := hM1
  have hc2 := hc1
  refine go ok_L_law ?_
  refine And.intro (fun _ => Ex.mono (by omega) (by omega) (K _ _ _ (hv) hc2 hM2)) (fun c => absurd rfl c)
set_option maxRecDepth 100000 in
theorem law_mend (hi : i + 6 ≤ (wS w).length) (hL : (wS w).length ≤ 3072) (hv : IV S) (hc : RC S G h) (hM : RM S h) (K : ∀ S' G' h', IV S' → RC S' G' h' → RM S' h' → Ex l w true mL_law (d + 29) Q 1228 (lwL i) [] h' (8 * m) (400 * m)) : Ex l w true mL_law (d + 29) Q 1092 (lwL i) [] h (8 * m + 8) (400 * m + 400) := by
  refine go ok_L_law ?_
  refine asCal ?_
  refine Cal.z (c_mend hc hv.1 (fun h1 hc1 hx1 => ?_))
  have hM1 := hM.ox hx1
  refine go ok_L_law ?_
  refine asCal ?_
  refine Cal.z (r_mend hM1 hv.1 (fun h2 hM2 ho2 => ?_))
  refine Ex.om hc1 ho2 (fun hc2 => ?_)
  refine go ok_L_law ?_
  refine And.intro (fun _ => Ex.mono (by omega) (by omega) (K _ _ _ (iv_mend hv) hc2 hM2)) (fun c => absurd rfl c)
set_option maxRecDepth 100000 in
theorem law_shown (hi : i + 6 ≤ (wS w).length) (hL : (wS w).length ≤ 3072) (hv : IV S) (hc : RC S G h) (hM : RM S h) (K : ∀ S' G' h', IV S' → RC S' G' h' → RM S' h' → Ex l w true mL_law (d + 29) Q 1228 (lwL i) [] h' (8 * m) (400 * m)) : Ex l w true mL_law (d + 29) Q 1105 (lwL i) [] h (8 * m + 8) (400 * m + 400) := by
  refine Ex.scr hc hM (fun h hc hM h26 s26 => ?_)
  refine go ok_L_law ?_
  refine And.intro (lw_ix (k := 1) h26 s26 hi hL (by decide)) ?_
  refine And.intro (lw_ix (k := 2) h26 s26 hi hL (by decide)) ?_
  refine And.intro (lw_ix (k := 3) h26 s26 hi hL (by decide)) ?_
  refine asCal ?_
  rw [s26]
  refine Cal.z (c_shown hc hv.1 ?_)
  have hc1 := hc
  have hM1 := hM
  refine go ok_L_law ?_
  refine And.intro (lw_ix (k := 1) h26 s26 hi hL (by decide)) ?_
  refine And.intro (lw_ix (k := 2) h26 s26 hi hL (by decide)) ?_
  refine And.intro (lw_ix (k := 3) h26 s26 hi hL (by decide)) ?_
  refine asCal ?_
  rw [s26]
  refine Cal.z (r_shown hM1 (fun h2 hM2 ho2 => ?_))
  refine Ex.om hc1 ho2 (fun hc2 => ?_)
  refine go ok_L_law ?_
  refine And.intro (fun _ => Ex.mono (by omega) (by omega) (K _ _ _ (hv) hc2 hM2)) (fun c => absurd rfl c)
set_option maxRecDepth 100000 in
theorem law_since (hi : i + 6 ≤ (wS w).length) (hL : (wS w).length ≤ 3072) (hv : IV S) (hc : RC S G h) (hM : RM S h) (K : ∀ S' G' h', IV S' → RC S' G' h' → RM S' h' → Ex l w true mL_law (d + 29) Q 1228 (lwL i) [] h' (8 * m) (400 * m)) : Ex l w true mL_law (d + 29) Q 1148 (lwL i) [] h (8 * m + 8) (400 * m + 400) := by
  refine Ex.scr hc hM (fun h hc hM h26 s26 => ?_)
  refine go ok_L_law ?_
  refine And.intro (lw_ix (k := 1) h26 s26 hi hL (by decide)) ?_
  refine And.intro (lw_ix (k := 2) h26 s26 hi hL (by decide)) ?_
  refine And.intro (lw_ix (k := 3) h26 s26 hi hL (by decide)) ?_
  refine asCal ?_
  rw [s26]
  refine Cal.z (c_since hc hv.1 ?_)
  have hc1 := hc
  have hM1 := hM
  refine go ok_L_law ?_
  refine And.intro (lw_ix (k := 1) h26 s26 hi hL (by decide)) ?_
  refine And.intro (lw_ix (k := 2) h26 s26 hi hL (by decide)) ?_
  refine And.intro (lw_ix (k := 3) h26 s26 hi hL (by decide)) ?_
  refine asCal ?_
  rw [s26]
  refine Cal.z (r_since hM1 (fun h2 hM2 ho2 => ?_))
  refine Ex.om hc1 ho2 (fun hc2 => ?_)
  refine go ok_L_law ?_
  refine And.intro (fun _ => Ex.mono (by omega) (by omega) (K _ _ _ (hv) hc2 hM2)) (fun c => absurd rfl c)
set_option maxRecDepth 100000 in
theorem law_first (hi : i + 6 ≤ (wS w).length) (hL : (wS w).length ≤ 3072) (hv : IV S) (hc : RC S G h) (hM : RM S h) (K : ∀ S' G' h', IV S' → RC S' G' h' → RM S' h' → Ex l w true mL_law (d + 29) Q 1228 (lwL i) [] h' (8 * m) (400 * m)) : Ex l w true mL_law (d + 29) Q 1191 (lwL i) [] h (8 * m + 8) (400 * m + 400) := by
  refine Ex.scr hc hM (fun h hc hM h26 s26 => ?_)
  refine go ok_L_law ?_
  refine And.intro (lw_ix (k := 1) h26 s26 hi hL (by decide)) ?_
  refine asCal ?_
  rw [s26]
  refine Cal.z (c_first hc hv.1 ?_)
  have hc1 := hc
  have hM1 := hM
  refine go ok_L_law ?_
  refine And.intro (lw_ix (k := 1) h26 s26 hi hL (by decide)) ?_
  refine asCal ?_
  rw [s26]
  refine Cal.z (r_first hM1 (fun h2 hM2 ho2 => ?_))
  refine Ex.om hc1 ho2 (fun hc2 => ?_)
  refine go ok_L_law ?_
  refine And.intro (fun _ => Ex.mono (by omega) (by omega) (K _ _ _ (hv) hc2 hM2)) (fun c => absurd rfl c)
set_option maxRecDepth 100000 in
theorem law_nowhere (hi : i + 6 ≤ (wS w).length) (hL : (wS w).length ≤ 3072) (hv : IV S) (hc : RC S G h) (hM : RM S h) (K : ∀ S' G' h', IV S' → RC S' G' h' → RM S' h' → Ex l w true mL_law (d + 29) Q 1228 (lwL i) [] h' (8 * m) (400 * m)) : Ex l w true mL_law (d + 29) Q 1214 (lwL i) [] h (8 * m + 8) (400 * m + 400) := by
  refine go ok_L_law ?_
  refine asCal ?_
  refine Cal.z (c_nowhere hc hv.1 ?_)
  have hc1 := hc
  have hM1 := hM
  refine go ok_L_law ?_
  refine asCal ?_
  refine Cal.z (r_nowhere hM1 (fun h2 hM2 ho2 => ?_))
  refine Ex.om hc1 ho2 (fun hc2 => ?_)
  refine go ok_L_law ?_
  refine asAnd ?_
  rw [cmp_self]
  refine And.intro (fun _ => Ex.mono (by omega) (by omega) (K _ _ _ (hv) hc2 hM2)) (fun c => absurd rfl c)
end LW

