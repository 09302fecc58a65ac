/-! ===== the reference: plans, the search ===== -/
theorem tI_ab2 {h : AH} {a b : Nat} {v v2 w : List Int32} (hab : ¬ a = b) : tI (tI (tI h a v) b w) a v2 = tI (tI h a v2) b w := by
  unfold tI
  simp only [hC, hI, hL, hR, aI, aL, aR, hZ]
  congr 5
  funext x
  unfold up1
  by_cases c : x = b
  · have : ¬ x = a := fun z => hab (z.symm.trans c)
    rw [if_neg this, if_pos c, if_pos c]
  · by_cases c2 : x = a
    · simp [c2, hab]
    · simp [c, c2]
section R26
variable {l : Launch} {w : WD} {d : Nat} {h : AH} {Q : Option AV → AH → Prop} {S : SG} {mem : List Nat}
theorem wsm_le {N W : Nat} {wt : Nat → Nat} (hW : ∀ m, m < N → wt m ≤ W) {P : Nat → Nat} : ∀ n, wsm N wt P n ≤ n * W
  | 0 => Nat.zero_le _
  | n + 1 => by
    have := wsm_le hW (P := P) n
    rw [wsm, Nat.add_mul, Nat.one_mul]
    split
    · rename_i c; have := hW _ c; omega
    · omega
/-- the best worth so far -/
def bwI (N : Nat) (wt : Nat → Nat) (nt : Nat) (o : Option (Nat → Nat)) : Int32 := match o with
  | none => -1
  | some B => nI (wsm N wt B nt)
def KNr (N : Nat) (P : Nat → Nat) (a : Nat) (r : List Int32) : Prop := r.length = 12 ∧ ∀ k, k < a → r.getD k 0 = nI (P k) ∧ P k ≤ N
def BKr (nt : Nat) (o : Option (Nat → Nat)) (s : List Int32) : Prop := s.length = 12 ∧ ∀ B, o = some B → ∀ k, k < nt → s.getD k 0 = nI (B k)
theorem KNr.up {N a v : Nat} {P : Nat → Nat} {r : List Int32} (hk : KNr N P a r) (ha : a < 12) (hv : v ≤ N) : KNr N (upF P a v) (a + 1) (r.set a (nI v)) := by
  refine ⟨by rw [List.length_set]; exact hk.1, fun k hk2 => ?_⟩
  rw [getD_set, hk.1]
  by_cases c : k = a
  · subst c; rw [if_pos ⟨rfl, ha⟩, upF_e]; exact ⟨rfl, hv⟩
  · rw [if_neg (fun z => c z.1), upF_n c]; exact hk.2 k (by omega)
theorem r_findPlan_loop (hM : RM S h) (hv : Inv S) (hp : PLH S mem h) {nt : Nat} (h1 : 1 ≤ nt) (hnt : nt ≤ 12) (hng : gNg S = nI nt) : ∀ (rem a : Nat), a + rem = nt → 1 ≤ rem → ∀ (c n : Nat), n + c = mem.length + 1 → ∀ (P : Nat → Nat) (r s : List Int32) (o : Option (Nat → Nat)) (l3 l4 : Option AV),
    KNr mem.length P a r → r.getD a 0 = nI n - 1 → vldP mem.length (drS S mem) (okS S mem) (ltS S) P a → SIp (fun P => vldP mem.length (drS S mem) (okS S mem) (ltS S) P nt) (fun P => wsm mem.length (wtN S mem) P nt) nt a P n o → BKr nt o s →
    (∀ r s o l3 l4, KNr mem.length P a r → SIp (fun P => vldP mem.length (drS S mem) (okS S mem) (ltS S) P nt) (fun P => wsm mem.length (wtN S mem) P nt) nt a P (mem.length + 1) o → BKr nt o s → Ex l w true mX9_findPlan (d + 2) Q 11 [some (vr 62), some (vi (bwI mem.length (wtN S mem) nt o)), some (vi (nI a + -1)), l3, l4] [] (tI (tI h 86 r) 87 s) 0 0) →
    Ex l w true mX9_findPlan (d + 2) Q 11 [some (vr 62), some (vi (bwI mem.length (wtN S mem) nt o)), some (vi (nI a)), l3, l4] [] (tI (tI h 86 r) 87 s) 0 0 := by
  have h7 := hp.2.1
  have hW : ∀ m, m < mem.length → wtN S mem m ≤ 3000000 := fun m hm => (hp.2.2 m hm).2.2.2
  have hVN : ∀ P' : Nat → Nat, vldP mem.length (drS S mem) (okS S mem) (ltS S) P' nt → ∀ k, k < nt → P' k ≤ mem.length := fun P' hv k hk => by
    rcases hv k hk with e | e
    · omega
    · omega
  have hExt := vldP_ext mem.length (drS S mem) (wtN S mem) (okS S mem) (ltS S) nt
  intro rem
  induction rem with
  | zero => intro a ha h0; omega
  | succ rem ihr =>
    intro a ha _ c
    have ea : (nI a).toNatClampNeg = a := nI_clamp (by omega)
    -- a turn: the knock grows
    have turn : ∀ (n : Nat) (r s : List Int32) (o : Option (Nat → Nat)) (l3 l4 : Option AV), n ≤ mem.length + 1 → r.length = 12 → r.getD a 0 = nI n - 1 →
        (mem.length < n → Ex l w true mX9_findPlan (d + 2) Q 38 [some (vr 62), some (vi (bwI mem.length (wtN S mem) nt o)), some (vi (nI a)), l3, l4] [] (tI (tI h 86 (r.set a (nI n))) 87 s) 0 0) →
        (n ≤ mem.length → Ex l w true mX9_findPlan (d + 2) Q 44 [some (vr 62), some (vi (bwI mem.length (wtN S mem) nt o)), some (vi (nI a)), l3, l4] [] (tI (tI h 86 (r.set a (nI n))) 87 s) 0 0) →
        Ex l w true mX9_findPlan (d + 2) Q 11 [some (vr 62), some (vi (bwI mem.length (wtN S mem) nt o)), some (vi (nI a)), l3, l4] [] (tI (tI h 86 r) 87 s) 0 0 := by
      intro n r s o l3 l4 hn hr hra k1 k2
      have e1 : tI (tI (tI h 86 r) 87 s) 86 ((aI (tI (tI h 86 r) 87 s) 86).set (nI a).toNatClampNeg ((aI (tI (tI h 86 r) 87 s) 86).getD (nI a).toNatClampNeg 0 + 1)) = tI (tI h 86 (r.set a (nI n))) 87 s := by
        show tI (tI (tI h 86 r) 87 s) 86 (r.set (nI a).toNatClampNeg (r.getD (nI a).toNatClampNeg 0 + 1)) = _
        rw [ea, hra, Int32.sub_add_cancel, tI_ab2 (by decide)]
      refine Ex.lay (fun hy => ?_)
      refine go ok_X9_findPlan ?_
      refine And.intro (fun c => absurd c (nI_pos (by omega))) (fun c => ?_)
      refine go ok_X9_findPlan ?_
      refine And.intro (ix86 hy (k := a) rfl (by omega)) ?_
      refine asAnd ?_
      refine And.intro (jx86 hy (k := a) rfl (by omega)) ?_
      refine asAnd ?_
      refine And.intro (ix86 hy.ti (k := a) rfl (by omega)) ?_
      refine asAnd ?_
      rw [e1, show (aI (tI (tI h 86 (r.set a (nI n))) 87 s) 86).getD (nI a).toNatClampNeg 0 = nI n by show (r.set a (nI n)).getD (nI a).toNatClampNeg 0 = nI n; rw [ea, getD_set, if_pos ⟨rfl, by omega⟩], show hI (tI (tI h 86 (r.set a (nI n))) 87 s) 687 62 = nI mem.length from hp.1, nI_leI (by omega) (by omega)]
      refine And.intro (fun c2 => ?_) (fun c2 => ?_)
      · exact k2 c2
      · exact k1 (by omega)
    induction c with
    | zero =>
      intro n hn P r s o l3 l4 hk hra hvp hsi hbk cont
      have : n = mem.length + 1 := by omega
      subst this
      have hk' : KNr mem.length P a (r.set a (nI (mem.length + 1))) := ⟨by rw [List.length_set]; exact hk.1, fun k hk2 => by rw [getD_set, if_neg (by omega)]; exact hk.2 k hk2⟩
      refine turn (mem.length + 1) r s o l3 l4 (Nat.le_refl _) hk.1 hra (fun _ => ?_) (fun z => by omega)
      refine go ok_X9_findPlan ?_
      exact cont (r.set a (nI (mem.length + 1))) s o l3 l4 hk' hsi hbk
    | succ c ihc =>
      intro n hn P r s o l3 l4 hk hra hvp hsi hbk cont
      refine turn n r s o l3 l4 (by omega) hk.1 hra (fun z => by omega) (fun _ => ?_)
      have hk1 : KNr mem.length (upF P a n) (a + 1) (r.set a (nI n)) := hk.up (by omega) (by omega)
      have hk0 : KNr mem.length P a (r.set a (nI n)) := ⟨hk1.1, fun k hk2 => by have := hk1.2 k (by omega); rwa [upF_n (by omega)] at this⟩
      have hM' : RM S (tI (tI h 86 (r.set a (nI n))) 87 s) := hM
      have hp' : PLH S mem (tI (tI h 86 (r.set a (nI n))) 87 s) := hp
      have hkn : KNH mem.length P a (tI (tI h 86 (r.set a (nI n))) 87 s) := hk0.2
      have hkn1 : KNH mem.length (upF P a n) (a + 1) (tI (tI h 86 (r.set a (nI n))) 87 s) := hk1.2
      have hran : (r.set a (nI n)).getD a 0 = nI (n + 1) - 1 := by
        rw [getD_set, if_pos ⟨rfl, by have := hk.1; omega⟩, nI_prd (by omega)]; rfl
      -- on to the next
      have next : ∀ o s l3 l4, SIp (fun P => vldP mem.length (drS S mem) (okS S mem) (ltS S) P nt) (fun P => wsm mem.length (wtN S mem) P nt) nt a P (n + 1) o → BKr nt o s → Ex l w true mX9_findPlan (d + 2) Q 11 [some (vr 62), some (vi (bwI mem.length (wtN S mem) nt o)), some (vi (nI a)), l3, l4] [] (tI (tI h 86 (r.set a (nI n))) 87 s) 0 0 := by
        intro o s l3 l4 hsi2 hbk2
        exact ihc (n + 1) (by omega) P (r.set a (nI n)) s o l3 l4 hk0 hran hvp hsi2 hbk2 cont
      have k71 : (n = mem.length ∨ (n < mem.length ∧ mayP mem.length (drS S mem) (okS S mem) (ltS S) (upF P a n) a)) → Ex l w true mX9_findPlan (d + 2) Q 71 [some (vr 62), some (vi (bwI mem.length (wtN S mem) nt o)), some (vi (nI a)), l3, l4] [] (tI (tI h 86 (r.set a (nI n))) 87 s) 0 0 := by
        intro hmay
        have hvp1 : vldP mem.length (drS S mem) (okS S mem) (ltS S) (upF P a n) (a + 1) := by
          refine vldP_s _ _ _ _ (vldP_cong _ _ _ _ (fun k hk2 => (upF_n (by omega)).symm) hvp) ?_
          rw [upF_e]
          exact hmay
        have hw1 : wsm mem.length (wtN S mem) (upF P a n) (a + 1) ≤ 12 * 3000000 := Nat.le_trans (wsm_le hW (a + 1)) (Nat.mul_le_mul_right _ (by omega))
        have hwB : ∀ B : Nat → Nat, wsm mem.length (wtN S mem) B nt ≤ 12 * 3000000 := fun B => Nat.le_trans (wsm_le hW nt) (Nat.mul_le_mul_right _ hnt)
        refine go ok_X9_findPlan ?_
        refine asCal ?_
        rw [nI_1]
        refine Cal.z (r_hasUpTo hp' (by omega) hkn1 ?_)
        rw [usB_sum mem.length (drS S mem) (wtN S mem) (okS S mem) (ltS S) (a + 1) hvp1]
        generalize hhas : wsm mem.length (wtN S mem) (upF P a n) (a + 1) = has at *
        refine go ok_X9_findPlan ?_
        refine asAnd ?_
        rw [show hI (tI (tI h 86 (r.set a (nI n))) 87 s) 652 62 = nI nt from hM.m5.2.2.1.trans hng, nI_1, nI_eq (by omega) (by omega)]
        refine And.intro (fun c1 => ?_) (fun c1 => ?_)
        · -- further down, or left out
          have hgr : grM mem.length (wtN S mem) (nt - (a + 1)) (fun m => !usB mem.length (upF P a n) m (a + 1) && okS S mem m) ≤ 12 * 3000000 := Nat.le_trans (grM_le mem.length (wtN S mem) hW _ _) (Nat.mul_le_mul_right _ (by omega))
          have hub : ∀ P' : Nat → Nat, vldP mem.length (drS S mem) (okS S mem) (ltS S) P' nt → (∀ j, j < a → P' j = P j) → P' a = n → wsm mem.length (wtN S mem) P' nt ≤ has + grM mem.length (wtN S mem) (nt - (a + 1)) (fun m => !usB mem.length (upF P a n) m (a + 1) && okS S mem m) := by
            intro P' hv' g1 g2
            have := more_ub mem.length (drS S mem) (wtN S mem) (okS S mem) (ltS S) (P := upF P a n) (Q := P') (a := a + 1) (n := nt - (a + 1)) (by rw [show a + 1 + (nt - (a + 1)) = nt by omega]; exact hv') (fun k hk2 => by
              by_cases z : k = a
              · subst z; rw [upF_e]; exact g2
              · rw [upF_n z]; exact g1 k (by omega))
            rw [show a + 1 + (nt - (a + 1)) = nt by omega, hhas] at this
            exact this
          refine go ok_X9_findPlan ?_
          refine asCal ?_
          rw [nI_1]
          refine Cal.z (r_moreFrom hM' hv hp' (by omega) hkn1 hnt hng (by omega) ?_)
          generalize grM mem.length (wtN S mem) (nt - (a + 1)) (fun m => !usB mem.length (upF P a n) m (a + 1) && okS S mem m) = mr at hgr hub
          have down : ∀ l3 l4, Ex l w true mX9_findPlan (d + 2) Q 144 [some (vr 62), some (vi (bwI mem.length (wtN S mem) nt o)), some (vi (nI a)), l3, l4] [] (tI (tI h 86 (r.set a (nI n))) 87 s) 0 0 := by
            intro l3 l4
            have hh := fun l3 l4 => ihr (a + 1) (by omega) (by omega) (mem.length + 1) 0 (by omega) (upF P a n) ((r.set a (nI n)).set (a + 1) (nI 0 - 1)) s o l3 l4 ⟨by rw [List.length_set]; exact hk1.1, fun k hk2 => by rw [getD_set, if_neg (by omega)]; exact hk1.2 k hk2⟩ (by rw [getD_set, if_pos ⟨rfl, by have := hk1.1; omega⟩]) hvp1 hsi.down hbk (fun r2 s2 o2 l3 l4 hkr hsi2 hbk2 => by
              have hk2 : KNr mem.length P a r2 := ⟨hkr.1, fun k hk2 => by have := hkr.2 k (by omega); rwa [upF_n (by omega)] at this⟩
              have hra2 : r2.getD a 0 = nI (n + 1) - 1 := by
                have := (hkr.2 a (by omega)).1
                rw [upF_e] at this
                rw [this, nI_prd (by omega)]; rfl
              have hsi3 := hsi2.up (fun P' hv' => hVN P' hv' (a + 1) (by omega))
              rw [upF_e] at hsi3
              have := ihc (n + 1) (by omega) P r2 s2 o2 l3 l4 hk2 hra2 hvp (hsi3.cong (fun j hj => upF_n (by omega))) hbk2 cont
              rw [show nI (a + 1) + -1 = nI a by rw [← nI_1, Int32.add_assoc]; show nI a + 0 = nI a; rw [Int32.add_zero]]
              exact this)
            refine Ex.lay (fun hy => ?_)
            refine go ok_X9_findPlan ?_
            refine And.intro (jx86 hy (k := a + 1) (nI_1 a) (by omega)) ?_
            rw [nI_1, nI_clamp (by omega), show aI (tI (tI h 86 (r.set a (nI n))) 87 s) 86 = r.set a (nI n) from rfl, tI_ab2 (by decide)]
            refine go ok_X9_findPlan ?_
            exact hh _ _
          cases o with
          | none =>
            refine go ok_X9_findPlan ?_
            refine asAnd ?_
            rw [nI_add]
            refine And.intro (fun z => ?_) (fun _ => down _ _)
            exact absurd z (fun z => absurd (Int32.le_trans (nI_pos' (n := has + mr) (by omega)) z) (show ¬ (0 : Int32) ≤ -1 by decide))
          | some B =>
            have hB := hwB B
            refine go ok_X9_findPlan ?_
            refine asAnd ?_
            rw [nI_add, show bwI mem.length (wtN S mem) nt (some B) = nI (wsm mem.length (wtN S mem) B nt) from rfl, nI_leI (by omega) (by omega)]
            refine And.intro (fun c2 => ?_) (fun c2 => ?_)
            · refine go ok_X9_findPlan ?_
              exact next (some B) s _ _ (hsi.prune (by omega) (fun P' hv' g1 g2 => Nat.le_trans (hub P' hv' g1 g2) c2)) hbk
            · exact down _ _
        · -- a whole plan
          have hvl : vldP mem.length (drS S mem) (okS S mem) (ltS S) (upF P a n) nt := c1 ▸ hvp1
          have hfl : wsm mem.length (wtN S mem) (upF P a n) nt = has := by rw [← c1]; exact hhas
          have upd : ∀ (o2 : Option (Nat → Nat)) l4, SIp (fun P => vldP mem.length (drS S mem) (okS S mem) (ltS S) P nt) (fun P => wsm mem.length (wtN S mem) P nt) nt a P (n + 1) (some (upF P a n)) → Ex l w true mX9_findPlan (d + 2) Q 94 [some (vr 62), some (vi (bwI mem.length (wtN S mem) nt o2)), some (vi (nI a)), some (vi (nI has)), l4] [] (tI (tI h 86 (r.set a (nI n))) 87 s) 0 0 := by
            intro o2 l4 hsi2
            refine go ok_X9_findPlan ?_
            refine r_findPlan_copy (g := h) (nt := nt) (hM.m5.2.2.1.trans hng) hnt hk1.1 (fun s2 hs2 es => ?_) nt 0 s (by omega) hbk.1 (fun k hk2 => by omega)
            have hh := next (some (upF P a n)) s2 (some (vi (nI has))) (some (vi (nI nt))) hsi2 ⟨hs2, fun B eB k hk2 => by
              injection eB with eB
              subst eB
              rw [es k hk2]
              exact (hk1.2 k (by omega)).1⟩
            rw [show bwI mem.length (wtN S mem) nt (some (upF P a n)) = nI has by show nI (wsm _ _ _ _) = _; rw [hfl]] at hh
            refine go ok_X9_findPlan ?_
            refine go ok_X9_findPlan ?_
            exact hh
          cases o with
          | none =>
            refine go ok_X9_findPlan ?_
            refine And.intro (fun z => ?_) (fun _ => upd none _ (hsi.leaf0 c1 hExt hvl))
            exact absurd z (fun z => absurd (Int32.le_trans (nI_pos' (n := has) (by omega)) z) (show ¬ (0 : Int32) ≤ -1 by decide))
          | some B =>
            have hB := hwB B
            refine go ok_X9_findPlan ?_
            refine asAnd ?_
            rw [show bwI mem.length (wtN S mem) nt (some B) = nI (wsm mem.length (wtN S mem) B nt) from rfl, nI_leI (by omega) (by omega)]
            refine And.intro (fun c2 => ?_) (fun c2 => ?_)
            · refine go ok_X9_findPlan ?_
              exact next (some B) s _ _ (hsi.leaf2 c1 hExt (by show wsm _ _ _ _ ≤ wsm _ _ _ _; rw [hfl]; exact c2)) hbk
            · exact upd (some B) _ (hsi.leaf1 c1 hExt hvl (by show wsm _ _ _ _ < wsm _ _ _ _; rw [hfl]; omega))
      have eg : (aI (tI (tI h 86 (r.set a (nI n))) 87 s) 86).getD (nI a).toNatClampNeg 0 = nI n := by show (r.set a (nI n)).getD (nI a).toNatClampNeg 0 = nI n; rw [ea, getD_set, if_pos ⟨rfl, by have := hk.1; omega⟩]
      refine Ex.lay (fun hy => ?_)
      refine go ok_X9_findPlan ?_
      refine And.intro (ix86 hy (k := a) rfl (by omega)) ?_
      refine asAnd ?_
      rw [eg, show hI (tI (tI h 86 (r.set a (nI n))) 87 s) 687 62 = nI mem.length from hp.1, nI_eq (by omega) (by omega)]
      refine And.intro (fun c2 => ?_) (fun c2 => ?_)
      · exact k71 (Or.inl c2)
      · refine go ok_X9_findPlan ?_
        refine And.intro (ix86 hy (k := a) rfl (by omega)) ?_
        refine asCal ?_
        rw [eg]
        refine Cal.z (r_mayKnock hM' hv hp' (by omega) hkn (by omega) ?_)
        refine go ok_X9_findPlan ?_
        refine And.intro (fun c3 => ?_) (fun c3 => ?_)
        · have c4 := b2i_eq.mp c3
          refine next o s _ _ (hsi.skip (fun P' hv' g1 g2 => ?_)) hbk
          rcases hv' a (by omega) with e | ⟨e1, e2⟩
          · omega
          · have : mayP mem.length (drS S mem) (okS S mem) (ltS S) (upF P a n) a := by
              refine ⟨by rw [upF_e, ← g2]; exact e2.1, fun j hj => ?_⟩
              rw [upF_e, upF_n (by omega), ← g2, ← g1 j hj]
              exact e2.2 j hj
            rw [mkR_may.mpr this] at c4
            cases c4
        · exact k71 (Or.inr ⟨by omega, mkR_may.mp (b2i_ne.mp c3)⟩)
end R26

