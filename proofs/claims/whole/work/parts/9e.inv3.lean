/-! ===== what the states keep: read, program ===== -/
section V3
variable {S : SG} {tx : List Int32}
theorem pNum_b {lo hi : Int32} {i j : Nat} {v : Int32} (e : pNum tx lo hi i = .inr (j, v)) : lo ≤ v ∧ v ≤ hi := by
  unfold pNum at e
  split at e
  · cases e
  · split at e
    · rename_i c
      injection e with e
      injection e with a b
      rw [← b]
      exact c.2
    · cases e
theorem clo_or {cl : Int64} (h : 0 ≤ cl ∧ cl >>> 60 = 0) {p : Int32} (hp : 0 ≤ p ∧ p ≤ 59) : (0 : Int64) ≤ (cl ||| ((1 : Int64) <<< (p.toInt64 &&& 63))) ∧ (cl ||| ((1 : Int64) <<< (p.toInt64 &&& 63))) >>> (60 : Int64) = 0 := by
  rw [← pc_mask] at h ⊢
  obtain ⟨m, hm, em⟩ := natOf (n := 59) (by decide) hp.1 hp.2
  have emk : ∀ i, i < 64 → bl (-1152921504606846976) i = decide (60 ≤ i) := by decide +kernel
  refine l_ext (fun i hi => ?_)
  have hb : bl (cl &&& (-1152921504606846976)) i = false := by rw [h]; exact l_0 i
  rw [l_and, emk i hi] at hb
  rw [l_and, l_or, em, l_bit (by omega) hi, emk i hi, l_0]
  by_cases c : 60 ≤ i
  · rw [decide_eq_true c, Bool.and_true] at hb
    rw [hb, decide_eq_false (by omega)]
    rfl
  · rw [decide_eq_false c, Bool.and_false]
theorem pCloF_b : ∀ n (cl : Int64) i j cl', pCloF tx n cl i = .inr (j, cl') → (0 ≤ cl ∧ cl >>> 60 = 0) → (0 ≤ cl' ∧ cl' >>> 60 = 0) := by
  intro n
  induction n with
  | zero => intro cl i j cl' e; rw [pCloF] at e; cases e
  | succ n ih =>
    intro cl i j cl' e h
    rw [pCloF] at e
    obtain ⟨j1, p, e1, e2⟩ := pBd_inv e
    have hp := pNum_b e1
    split at e2
    · split at e2
      · exact ih _ _ _ _ e2 (clo_or h hp)
      · injection e2 with e2
        injection e2 with a b
        rw [← b]
        exact clo_or h hp
    · cases e2
theorem pBody_rt {R R' : NR} {i j : Nat} (e : pBody tx R i = .inr (j, R')) (h : rtOK R.1) : rtOK R'.1 := by
  obtain ⟨h1, h2, h3, h4, h5, h6⟩ := h
  unfold pBody at e
  split at e
  · unfold pNever at e
    obtain ⟨j1, d, e1, e2⟩ := pBd_inv e
    split at e2
    · cases e2
    · injection e2 with e2
      injection e2 with a b
      rw [← b]
      refine ⟨by show (R.1.1.set _ 1).length = 6; rw [List.length_set]; exact h1, h2, fun k hk => ⟨?_, (h3 k hk).2⟩, h4, h5, h6⟩
      show (R.1.1.set _ 1).getD k 0 = 0 ∨ (R.1.1.set _ 1).getD k 0 = 1
      rw [getD_set]
      split
      · exact Or.inr rfl
      · exact (h3 k hk).1
  · split at e
    · unfold pLet at e
      obtain ⟨j1, d, e1, e2⟩ := pBd_inv e
      split at e2
      · cases e2
      · obtain ⟨j2, u, e3, e4⟩ := pBd_inv e2
        obtain ⟨j3, v, e5, e6⟩ := pBd_inv e4
        have hb := pNum_b e5
        injection e6 with e6
        injection e6 with a b
        rw [← b]
        refine ⟨h1, by show (R.1.2.1.set _ v).length = 6; rw [List.length_set]; exact h2, fun k hk => ⟨(h3 k hk).1, ?_⟩, h4, h5, h6⟩
        show 1 ≤ (R.1.2.1.set _ v).getD k 0 ∧ (R.1.2.1.set _ v).getD k 0 ≤ 99
        rw [getD_set]
        split
        · exact hb
        · exact (h3 k hk).2
    · split at e
      · unfold pNight at e
        split at e
        · cases e
        · obtain ⟨j1, v, e1, e2⟩ := pBd_inv e
          have hb := pNum_b e1
          injection e2 with e2
          injection e2 with a b
          rw [← b]
          exact ⟨h1, h2, h3, hb, h5, h6⟩
      · split at e
        · unfold pPat at e
          split at e
          · cases e
          · obtain ⟨j1, v, e1, e2⟩ := pBd_inv e
            have hb := pNum_b e1
            injection e2 with e2
            injection e2 with a b
            rw [← b]
            exact ⟨h1, h2, h3, h4, hb, h6⟩
        · split at e
          · unfold pClo at e
            split at e
            · cases e
            · obtain ⟨j1, v, e1, e2⟩ := pBd_inv e
              have hb := pCloF_b _ _ _ _ _ e1 h6
              injection e2 with e2
              injection e2 with a b
              rw [← b]
              exact ⟨h1, h2, h3, h4, h5, hb⟩
          · cases e
theorem pReadF_rt : ∀ f n (R : NR) i i0 n' R', pReadF tx f n R i = .inr (i0, n', R') → rtOK R.1 → rtOK R'.1 := by
  intro f
  induction f with
  | zero => intro n R i i0 n' R' e; rw [pReadF] at e; cases e
  | succ f ih =>
    intro n R i i0 n' R' e h
    rw [pReadF] at e
    split at e
    · obtain ⟨j, R1, e1, e2⟩ := pBd_inv e
      unfold pRight at e1
      obtain ⟨j2, R2, e3, e4⟩ := pBd_inv e1
      obtain ⟨j3, u, e5, e6⟩ := pBd_inv e4
      injection e6 with e6
      injection e6 with a b
      rw [b] at e3
      exact ih _ _ _ _ _ _ e2 (pBody_rt e3 h)
    · injection e with e
      injection e with a b
      injection b with b c
      rw [← c]
      exact h
theorem rt0_ok : rtOK rt0 := ⟨rfl, rfl, by decide, by decide, by decide, by decide⟩
theorem iv_read (hv : IV S) : IV (readF S).2 := by
  obtain ⟨⟨v1, v2, v3, v4, v5, v6, v7, v8, v9, v10⟩, vp⟩ := hv
  unfold readF
  split
  · exact ⟨⟨v1, v2, v3, v4, v5, v6, fun i hi => absurd hi (Nat.not_lt_zero _), v8, v9, v10⟩, vp⟩
  · rename_i e
    exact ⟨⟨v1, v2, v3, v4, v5, pReadF_rt _ _ _ _ _ _ _ e rt0_ok, fun i hi => absurd hi (Nat.not_lt_zero _), v8, v9, v10⟩, vp⟩
theorem pProgF_cl : ∀ f (cs : List CLS) i i0 cs', pProgF tx f cs i = .inr (i0, cs') → (∀ k, k < cs.length → clOK (gC cs k)) → ∀ k, k < cs'.length → clOK (gC cs' k) := by
  intro f
  induction f with
  | zero => intro cs i i0 cs' e; rw [pProgF] at e; cases e
  | succ f ih =>
    intro cs i i0 cs' e h
    rw [pProgF] at e
    split at e
    · rename_i c0
      split at e
      · split at e
        · obtain ⟨j, c, e1, e2⟩ := pBd_inv e
          have hc := (pClsB_ok e1 (by omega)).2
          refine ih _ _ _ _ e2 (fun k hk => ?_)
          rw [List.length_append] at hk
          by_cases z : k = cs.length
          · rw [z, gC_e]; exact hc
          · have : k < cs.length := by have : [c].length = 1 := rfl; omega
            rw [gC_l this]; exact h k this
        · cases e
      · cases e
    · injection e with e
      injection e with a b
      rw [← b]
      exact h
theorem iv_program (hv : IV S) (x : Int32) : IV (programF S x).2 := by
  unfold programF
  split
  · exact hv
  · rename_i p ep
    have hp := (ixO_some ep).1
    split
    · obtain ⟨⟨v1, v2, v3, v4, v5, v6, v7, v8, v9, v10⟩, vp⟩ := hv
      split
      · exact ⟨⟨v1, v2, v3, v4, v5, v6, fun i hi => absurd hi (Nat.not_lt_zero _), v8, v9, v10⟩, vp⟩
      · rename_i cs e
        have hcl := pProgF_cl _ _ _ _ _ e (fun k hk => absurd hk (Nat.not_lt_zero _))
        have pr : ∀ q, prD ((gPr S).set p cs) q = if q = p ∧ p < (gPr S).length then cs else prD (gPr S) q := fun q => getD_set _ _ _ _ _
        refine ⟨⟨v1, v2, v3, v4, v5, v6, fun i hi => absurd hi (Nat.not_lt_zero _), ⟨by show ((gPr S).set p cs).length = 12; rw [List.length_set]; exact v8.1, fun q k hk => ?_⟩, v9, v10⟩, fun q hq => ?_⟩
        · replace hk : k < (prD ((gPr S).set p cs) q).length := hk
          show clOK ((prD ((gPr S).set p cs) q).getD k (0, 0, 0))
          rw [pr q] at hk ⊢
          split at hk
          · rename_i c; rw [if_pos c]; exact hcl k hk
          · rename_i c; rw [if_neg c]; exact v8.2 q k hk
        · show prD ((gPr S).set p cs) q = []
          replace hq : (gDs S).length ≤ q := hq
          rw [pr q, if_neg (by omega)]
          exact vp q hq
    · exact hv
end V3

