/-! ===== worths are bounded; the reference: plan ===== -/
theorem filter_range_lt {q : Nat → Bool} : ∀ (n : Nat) (i j : Nat), i < j → j < ((List.range n).filter q).length → gN ((List.range n).filter q) i < gN ((List.range n).filter q) j
  | 0, i, j, _, hj => by simp at hj
  | n + 1, i, j, hij, hj => by
    have e : (List.range (n + 1)).filter q = (List.range n).filter q ++ (if q n = true then [n] else []) := by
      rw [List.range_succ, List.filter_append]
      by_cases c : q n = true
      · rw [if_pos c]; simp [c]
      · rw [if_neg c]; simp [c]
    rw [e] at hj ⊢
    by_cases c : q n = true
    · rw [if_pos c] at hj ⊢
      rw [List.length_append, List.length_singleton] at hj
      by_cases z : j = ((List.range n).filter q).length
      · subst z
        have h1 : gN ((List.range n).filter q ++ [n]) ((List.range n).filter q).length = n := getD_snoc_e
        have h2 : gN ((List.range n).filter q ++ [n]) i = gN ((List.range n).filter q) i := getD_snoc_l hij
        rw [h1, h2]
        exact List.mem_range.mp (List.mem_filter.mp (gN_mem hij)).1
      · have h1 : gN ((List.range n).filter q ++ [n]) j = gN ((List.range n).filter q) j := getD_snoc_l (by omega)
        have h2 : gN ((List.range n).filter q ++ [n]) i = gN ((List.range n).filter q) i := getD_snoc_l (by omega)
        rw [h1, h2]
        exact filter_range_lt n i j hij (by omega)
    · rw [if_neg c, List.append_nil] at hj ⊢
      exact filter_range_lt n i j hij hj
/-- the hour of a look as a number -/
def hN (D : List LK) (k : Nat) : Nat := (hrD D k).toNatClampNeg
section Worth
variable {S : SG}
theorem Inv.hn (hv : Inv S) {k : Nat} (hk : k < (gD S).length) : hrD (gD S) k = nI (hN (gD S) k) ∧ hN (gD S) k ≤ 3000 ∧ hrD (gD S) k ≤ gNw S := by
  obtain ⟨-, h2, -⟩ := hv.2.2.1 k hk
  obtain ⟨n, hn, en⟩ := hv.now
  obtain ⟨a, b⟩ := h2
  replace a : 0 ≤ hrD (gD S) k := a
  replace b : hrD (gD S) k ≤ gNw S := b
  have b2 := b
  rw [en] at b2
  obtain ⟨m, hm, em⟩ := natOf (by omega) a b2
  have e2 : hN (gD S) k = m := by unfold hN; rw [em, nI_clamp (by omega)]
  exact ⟨by rw [e2]; exact em, by omega, b⟩
theorem Inv.hlt (hv : Inv S) {p i j : Nat} (hij : i < j) (hj : j < (vws (gD S) p).length) : hN (gD S) (gN (vws (gD S) p) i) < hN (gD S) (gN (vws (gD S) p) j) := by
  obtain ⟨a1, a2, a3⟩ := vws_in (D := gD S) (p := p) (i := i) (by omega)
  obtain ⟨b1, b2, b3⟩ := vws_in (D := gD S) (p := p) (i := j) hj
  have hlt := filter_range_lt (q := fun l => decide (pgD (gD S) l = p) && isV (gD S) l) (gD S).length i j hij hj
  have h1 := (hv.2.2.2.1 _ _ hlt b1).2 (by unfold doorD; show (gDs S).getD (pgD (gD S) (gN (vws (gD S) p) i)) 0 = (gDs S).getD (pgD (gD S) (gN (vws (gD S) p) j)) 0; rw [a2, b2])
  replace h1 : hrD (gD S) (gN (vws (gD S) p) i) < hrD (gD S) (gN (vws (gD S) p) j) := h1
  obtain ⟨e1, f1, -⟩ := hv.hn a1
  obtain ⟨e2, f2, -⟩ := hv.hn b1
  rw [e1, e2, nI_ltI (by omega) (by omega)] at h1
  exact h1
theorem Inv.hspan (hv : Inv S) {p : Nat} : ∀ j, j < (vws (gD S) p).length → hN (gD S) (gN (vws (gD S) p) 0) + j ≤ hN (gD S) (gN (vws (gD S) p) j)
  | 0, _ => Nat.le_refl _
  | j + 1, hj => by
    have := hv.hspan (p := p) j (by omega)
    have := hv.hlt (p := p) (i := j) (j := j + 1) (by omega) hj
    omega
theorem chgR_b {D : List LK} {cl : Int64} {vs : List Nat} : ∀ n, ∃ c, c ≤ n ∧ chgR D cl vs n = nI c
  | 0 => ⟨0, Nat.le_refl _, rfl⟩
  | n + 1 => by
    obtain ⟨c, hc, e⟩ := chgR_b (D := D) (cl := cl) (vs := vs) n
    rw [chgR, e]
    cases alk D cl (gN vs n) (gN vs (n + 1))
    · exact ⟨c + 1, by omega, nI_1 c⟩
    · exact ⟨c, by omega, Int32.add_zero _⟩
theorem Inv.rate (hv : Inv S) (p : Nat) : rateN (gD S) (gCl S) (vws (gD S) p) = -1 ∨ ∃ n, n ≤ 1000 ∧ rateN (gD S) (gCl S) (vws (gD S) p) = nI n := by
  unfold rateN
  split
  · exact Or.inl rfl
  · rename_i c
    have c1 : 2 ≤ (vws (gD S) p).length := by rcases Nat.lt_or_ge (vws (gD S) p).length 2 with z | z; exact absurd (Or.inl z) c; exact z
    obtain ⟨a1, -, -⟩ := vws_in (D := gD S) (p := p) (i := 0) (by omega)
    obtain ⟨b1, -, -⟩ := vws_in (D := gD S) (p := p) (i := (vws (gD S) p).length - 1) (by omega)
    obtain ⟨e1, f1, -⟩ := hv.hn a1
    obtain ⟨e2, f2, -⟩ := hv.hn b1
    have hs := hv.hspan (p := p) ((vws (gD S) p).length - 1) (by omega)
    obtain ⟨n, hn, en⟩ := chgR_b (D := gD S) (cl := gCl S) (vs := vws (gD S) p) ((vws (gD S) p).length - 1)
    have hl := vws_len (gD S) p
    rw [en, e1, e2, show (1000 : Int32) = nI 1000 from rfl, nI_mul, i32_sub_nI (by omega)]
    generalize hsp : hN (gD S) (gN (vws (gD S) p) ((vws (gD S) p).length - 1)) - hN (gD S) (gN (vws (gD S) p) 0) = sp at *
    have hsp2 : n ≤ sp := by omega
    rw [pk_div (by omega) (by omega) (by omega)]
    refine Or.inr ⟨_, ?_, rfl⟩
    exact Nat.div_le_of_le_mul (by rw [Nat.mul_comm sp]; rw [Nat.mul_comm n]; exact Nat.mul_le_mul_left _ hsp2)
theorem Inv.worth (hv : Inv S) (p : Nat) : ∃ n, n ≤ 3000000 ∧ wtS S p = nI n := by
  unfold wtS
  split
  · exact ⟨1000, by decide, rfl⟩
  · rename_i c
    rcases hv.rate p with e | ⟨n, hn, e⟩
    · rw [e]; exact ⟨0, by decide, rfl⟩
    · rw [e, if_neg (nI_pos (by omega))]
      obtain ⟨b1, -, -⟩ := vws_in (D := gD S) (p := p) (i := (vws (gD S) p).length - 1) (by omega)
      obtain ⟨e2, f2, g2⟩ := hv.hn b1
      obtain ⟨m, hm, em⟩ := hv.now
      rw [em, e2, nI_leI (by omega) (by omega)] at g2
      rw [em, e2, i32_sub_nI g2, nI_mul]
      exact ⟨_, Nat.le_trans (Nat.mul_le_mul hn (show m - hN (gD S) (gN (vws (gD S) p) ((vws (gD S) p).length - 1)) ≤ 3000 by omega)) (by decide), rfl⟩
end Worth
def memU (st : Int32) (p : Nat) : List Nat := (List.range p).filter (fun q => bt st q)
def memL (S : SG) (st : Int32) : List Nat := memU st (gDs S).length
theorem memU_s (st : Int32) (p : Nat) : memU st (p + 1) = if bt st p = true then memU st p ++ [p] else memU st p := by
  unfold memU
  rw [List.range_succ, List.filter_append]
  by_cases c : bt st p = true
  · rw [if_pos c]; simp [c]
  · rw [if_neg c]; simp [c]
theorem memU_len (st : Int32) : ∀ p, (memU st p).length = ctB (bt st) p
  | 0 => rfl
  | p + 1 => by
    rw [memU_s, ctB, ← memU_len st p]
    split
    · rw [List.length_append]; rfl
    · rfl
/-- plans of a set of pages, their worth -/
abbrev plV (S : SG) (mem : List Nat) (nt : Nat) : (Nat → Nat) → Prop := fun P => vldP mem.length (drS S mem) (okS S mem) (ltS S) P nt
abbrev plW (S : SG) (mem : List Nat) (nt : Nat) : (Nat → Nat) → Nat := fun P => wsm mem.length (wtN S mem) P nt
noncomputable def bstS (S : SG) (mem : List Nat) (nt : Nat) : Nat → Nat := @dite _ (∃ B, BstP (plV S mem nt) (plW S mem nt) nt B) (Classical.propDecidable _) (fun h => Classical.choose h) (fun _ => fun _ => 0)
theorem bstS_eq {S : SG} {mem : List Nat} {nt : Nat} {B : Nat → Nat} (h : BstP (plV S mem nt) (plW S mem nt) nt B) : eqP nt B (bstS S mem nt) ∧ plW S mem nt B = plW S mem nt (bstS S mem nt) := by
  have he : ∃ B, BstP (plV S mem nt) (plW S mem nt) nt B := ⟨B, h⟩
  have e : bstS S mem nt = Classical.choose he := by unfold bstS; exact dif_pos he
  have h2 := Classical.choose_spec he
  rw [e]
  have h3 := BstP.same h h2 h.1 h2.1
  exact ⟨h3, (vldP_ext mem.length (drS S mem) (wtN S mem) (okS S mem) (ltS S) nt _ _ h3).2⟩
noncomputable def planA (S : SG) (st x : Int32) : Int32 := if pgSet S st then (if ons st.toInt64 ≤ 7 ∧ (-1 ≤ x ∧ x ≤ 11) then
    (if x = -1 then nI (plW S (memL S st) (gNg S).toNatClampNeg (bstS S (memL S st) (gNg S).toNatClampNeg)) else
    if gNg S ≤ x then -1 else if bstS S (memL S st) (gNg S).toNatClampNeg x.toNatClampNeg = (memL S st).length then -1 else nI (gN (memL S st) (bstS S (memL S st) (gNg S).toNatClampNeg x.toNatClampNeg))) else -1002) else -1001
section R27
variable {l : Launch} {w : WD} {d : Nat} {h : AH} {Q : Option AV → AH → Prop} {S : SG} {mem : List Nat}
theorem r_findPlan (hM : RM S h) (hv : Inv S) (hp : PLH S mem h) {nt : Nat} (h1 : 1 ≤ nt) (hnt : nt ≤ 12) (hng : gNg S = nI nt) (q : ∀ r s B, s.length = 12 → BstP (plV S mem nt) (plW S mem nt) nt B → (∀ k, k < nt → s.getD k 0 = nI (B k)) → Q (some (vi (nI (plW S mem nt B)))) (tI (tI h 86 r) 87 s)) : Con l w true (d + 2) HX9_findPlan [vr 62] h 0 0 Q := by
  refine Con.of ok_X9_findPlan (nones := [none, none, none, none]) rfl (by simp) ?_
  refine Ex.lay (fun hy => ?_)
  refine go ok_X9_findPlan ?_
  refine And.intro (jx86 hy (k := 0) rfl (by omega)) ?_
  have hh := r_findPlan_loop (l := l) (w := w) (d := d) (Q := Q) hM hv hp h1 hnt hng nt 0 (by omega) h1 (mem.length + 1) 0 (by omega) (fun _ => 0) ((aI h 86).set 0 (-1)) (aI h 87) none none none ⟨by rw [List.length_set]; exact yn86 hy, fun k hk => by omega⟩ (by rw [getD_set, if_pos ⟨rfl, by rw [yn86 hy]; decide⟩]; rfl) (fun k hk => by omega) (SIp.init _) ⟨yn87 hy, fun B e => by cases e⟩ (fun r s o l3 l4 hk hsi hbk => ?_)
  · rw [show tI (tI h 86 ((aI h 86).set 0 (-1))) 87 (aI h 87) = tI h 86 ((aI h 86).set 0 (-1)) from tI_self _ 87] at hh
    exact hh
  · obtain ⟨B, eB, hB⟩ := hsi.done (fun P' hv' => by
      rcases hv' 0 (by omega) with e | e
      · omega
      · omega) ⟨fun _ => mem.length, fun k hk => Or.inl rfl⟩
    subst eB
    refine go ok_X9_findPlan ?_
    refine And.intro (fun c => ?_) (fun c => absurd c (by decide))
    refine go ok_X9_findPlan ?_
    exact q r s B hbk.1 hB (hbk.2 B rfl)
theorem r_rateOf2 (hM : RM S h) {p : Nat} (hp : p < 2 ^ 31) (q : ∀ r, VR (gD S) (vws (gD S) p) (vw h r (nI (vws (gD S) p).length)) → Q (some (vi (rateN (gD S) (gCl S) (vws (gD S) p)))) (vw h r (nI (vws (gD S) p).length))) : Con l w true (d + 4) HX9_rateOf [vr 62, vi (nI p)] h 0 0 Q := by
  have hD := hM.m3.2.1
  refine Con.of ok_X9_rateOf (nones := [none, none]) rfl (by simp) ?_
  refine go ok_X9_rateOf ?_
  refine Cal.z (r_findViews hM.m3 hp (fun r _ hrow => ?_))
  have hV := VR.of hM.m3 hrow
  have q := q r hV
  have hM' : RM S (vw h r (nI (vws (gD S) p).length)) := hM.v
  generalize vw h r (nI (vws (gD S) p).length) = h' at hV q hM'
  generalize vws (gD S) p = vs at hV q
  have hvl := hV.2.2.2
  have k43 : vs.length < 2 ∨ hrD (gD S) (gN vs (vs.length - 1)) = hrD (gD S) (gN vs 0) → Ex l w true mX9_rateOf (d + 4) Q 43 [some (vr 62), some (vi (nI p)), none, none] [] h' 0 0 := by
    intro c
    rw [rateN, if_pos c] at q
    refine go ok_X9_rateOf ?_
    exact q
  refine Ex.lay (fun hy => ?_)
  refine go ok_X9_rateOf ?_
  refine asAnd ?_
  rw [hV.1]
  refine And.intro (fun c => ?_) (fun c => ?_)
  · replace c : nI vs.length < nI 2 := c
    rw [nI_ltI (by omega) (by omega)] at c
    exact k43 (Or.inl c)
  · replace c : ¬ nI vs.length < nI 2 := c
    rw [nI_ltI (by omega) (by omega)] at c
    have e1 : (nI (vs.length - 1)).toNatClampNeg = vs.length - 1 := nI_clamp (by omega)
    have d1 := hM'.m3.2.2 _ (hV.2.2.1 (vs.length - 1) (by omega))
    have d0 := hM'.m3.2.2 _ (hV.2.2.1 0 (by omega))
    have l1 := hV.2.2.1 (vs.length - 1) (by omega)
    have l0 := hV.2.2.1 0 (by omega)
    have r1 : (aI h' 72).getD (nI vs.length - 1).toNatClampNeg 0 = nI (gN vs (vs.length - 1)) := by rw [nI_prd (by omega), e1]; exact hV.2.1 _ (by omega)
    have r0 : (aI h' 72).getD (0 : Int32).toNatClampNeg 0 = nI (gN vs 0) := hV.2.1 0 (by omega)
    refine go ok_X9_rateOf ?_
    refine And.intro (ix72 hy (k := vs.length - 1) (by rw [hV.1]; exact nI_prd (by omega)) (by omega)) ?_
    rw [hV.1, r1]
    refine And.intro (ix65 hy rfl (by omega)) ?_
    refine And.intro (ix72 hy (k := 0) rfl (by omega)) ?_
    rw [r0]
    refine And.intro (ix65 hy rfl (by omega)) ?_
    rw [nI_clamp (n := gN vs (vs.length - 1)) (by omega), nI_clamp (n := gN vs 0) (by omega), d1.2.1, d0.2.1]
    refine And.intro (fun c2 => ?_) (fun c2 => ?_)
    · rw [rateN, if_neg (fun z => z.elim (fun z => c z) (fun z => c2 z))] at q
      refine go ok_X9_rateOf ?_
      refine r_rate_loop hM' hV (by omega) ?_ (vs.length - 1) 0 (by omega)
      refine go ok_X9_rateOf ?_
      refine And.intro (ix72 hy (k := vs.length - 1) (by rw [hV.1]; exact nI_prd (by omega)) (by omega)) ?_
      rw [hV.1, r1]
      refine And.intro (ix65 hy rfl (by omega)) ?_
      refine And.intro (ix72 hy (k := 0) rfl (by omega)) ?_
      rw [r0]
      refine And.intro (ix65 hy rfl (by omega)) ?_
      rw [nI_clamp (n := gN vs (vs.length - 1)) (by omega), nI_clamp (n := gN vs 0) (by omega), d1.2.1, d0.2.1]
      refine And.intro (i32_sub0 c2) ?_
      exact q
    · exact k43 (Or.inr c2)
theorem r_worthOf (hM : RM S h) {p : Nat} (hp : p < 2 ^ 31) (q : ∀ r, Q (some (vi (wtS S p))) (vw h r (nI (vws (gD S) p).length))) : Con l w true (d + 5) HX9_worthOf [vr 62, vi (nI p)] h 0 0 Q := by
  have hD := hM.m3.2.1
  refine Con.of ok_X9_worthOf (nones := [none]) rfl (by simp) ?_
  refine go ok_X9_worthOf ?_
  refine Cal.z (r_rateOf2 hM hp (fun r hV => ?_))
  have q := q r
  have hM' : RM S (vw h r (nI (vws (gD S) p).length)) := hM.v
  unfold wtS at q
  generalize vw h r (nI (vws (gD S) p).length) = h' at hV q hM'
  generalize vws (gD S) p = vs at hV q
  have hvl := hV.2.2.2
  refine Ex.lay (fun hy => ?_)
  refine go ok_X9_worthOf ?_
  refine asAnd ?_
  rw [hV.1]
  refine And.intro (fun c => ?_) (fun c => ?_)
  · replace c : ¬ nI vs.length = nI 0 := c
    rw [nI_eq (by omega) (by omega)] at c
    rw [if_neg c] at q
    have l1 := hV.2.2.1 (vs.length - 1) (by omega)
    refine go ok_X9_worthOf ?_
    refine And.intro (fun c2 => ?_) (fun c2 => ?_)
    · rw [if_neg (by simpa using c2)] at q
      refine go ok_X9_worthOf ?_
      refine And.intro (ix72 hy (k := vs.length - 1) (by rw [hV.1]; exact nI_prd (by omega)) (by omega)) ?_
      rw [hV.1, nI_prd (by omega), nI_clamp (by omega), hV.2.1 _ (by omega)]
      refine And.intro (ix65 hy rfl (by omega)) ?_
      rw [nI_clamp (by omega), (hM'.m3.2.2 _ l1).2.1, hM'.1]
      exact q
    · rw [if_pos (by simpa using c2)] at q
      refine go ok_X9_worthOf ?_
      exact q
  · replace c : nI vs.length = nI 0 := c
    rw [nI_eq (by omega) (by omega)] at c
    rw [if_pos c] at q
    refine go ok_X9_worthOf ?_
    exact q
theorem gN_snoc_l {L : List Nat} {v i : Nat} (h : i < L.length) : gN (L ++ [v]) i = gN L i := getD_snoc_l h
theorem gN_snoc_e {L : List Nat} {v : Nat} : gN (L ++ [v]) L.length = v := getD_snoc_e
theorem r_plan_loop (hv : Inv S) (hp12 : (gDs S).length ≤ 12) {st x : Int32} (h7 : ctB (bt st) (gDs S).length ≤ 7) (q : ∀ h', RM S h' → OM h h' → PLH S (memL S st) h' → Ex l w true mX9_plan (d + 6) Q 109 [some (vr 62), some (vi st), some (vi x), some (vi (nI (gDs S).length))] [] h' 0 0) : ∀ n p h', p + n = (gDs S).length → RM S h' → OM h h' → PLH S (memU st p) h' →
    Ex l w true mX9_plan (d + 6) Q 52 [some (vr 62), some (vi st), some (vi x), some (vi (nI p))] [] h' 0 0 := by
  intro n
  induction n with
  | zero =>
    intro p h' hi hM ho hp
    have : p = (gDs S).length := by omega
    subst this
    refine go ok_X9_plan ?_
    refine asAnd ?_
    rw [hM.m2.1]
    refine And.intro (fun c => ?_) (fun c => ?_)
    · exact q h' hM ho hp
    · exact absurd (nI_le (Nat.le_refl _) (by omega)) c
  | succ n ih =>
    intro p h' hi hM ho hp
    have hmu := memU_s st p
    have k103 : ∀ h2, RM S h2 → OM h h2 → PLH S (memU st (p + 1)) h2 → Ex l w true mX9_plan (d + 6) Q 103 [some (vr 62), some (vi st), some (vi x), some (vi (nI p))] [] h2 0 0 := by
      intro h2 hM2 ho2 hp2
      have hh := ih (p + 1) h2 (by omega) hM2 ho2 hp2
      rw [← nI_1] at hh
      refine go ok_X9_plan ?_
      exact hh
    refine Ex.lay (fun hy => ?_)
    refine go ok_X9_plan ?_
    refine asAnd ?_
    rw [hM.m2.1]
    refine And.intro (fun c => ?_) (fun c => ?_)
    · exact absurd c (nI_ge (by omega) (by omega))
    · refine go ok_X9_plan ?_
      refine asAnd ?_
      rw [b_get1 (by omega)]
      refine And.intro (fun c2 => ?_) (fun c2 => ?_)
      · rw [if_neg c2] at hmu
        rw [hmu] at k103
        exact k103 h' hM ho hp
      · rw [if_pos c2] at hmu
        have hl7 : (memU st p).length < 7 := by
          have h1 := memU_len st (p + 1)
          have h2 := ctB_mono (bt st) (m := p + 1) n
          rw [show p + 1 + n = (gDs S).length by omega] at h2
          rw [hmu, List.length_append, List.length_singleton] at h1
          omega
        have el : hI h' 687 62 = nI (memU st p).length := hp.1
        have ec : (nI (memU st p).length).toNatClampNeg = (memU st p).length := nI_clamp (by omega)
        refine go ok_X9_plan ?_
        refine And.intro (jx84 hy (k := (memU st p).length) el (by omega)) ?_
        rw [el, ec]
        have hM1 : RM S (tI h' 84 ((aI h' 84).set (memU st p).length (nI p))) := hM
        refine Cal.z (r_worthOf hM1 (by omega) (fun r => ?_))
        refine Ex.lay (fun hy => ?_)
        refine go ok_X9_plan ?_
        refine And.intro (jx85 hy (k := (memU st p).length) el (by omega)) ?_
        rw [show hI (tI h' 84 ((aI h' 84).set (memU st p).length (nI p))) 687 62 = nI (memU st p).length from el, ec]
        refine k103 _ hM1 ?_ ?_
        · exact (((ho.t (by decide)).v).t (by decide)).s (by decide)
        · rw [hmu]
          refine ⟨?_, ?_, fun i hi2 => ?_⟩
          · show hI h' 687 62 + 1 = nI (memU st p ++ [p]).length
            rw [el, nI_1, List.length_append]; rfl
          · rw [List.length_append, List.length_singleton]; omega
          · rw [List.length_append, List.length_singleton] at hi2
            have y84 : (aI h' 84).length = 7 := by have := yn84 hy; rw [show aI (vw (tI h' 84 ((aI h' 84).set (memU st p).length (nI p))) r (nI (vws (gD S) p).length)) 84 = (aI h' 84).set (memU st p).length (nI p) from rfl, List.length_set] at this; exact this
            have y85 : (aI h' 85).length = 7 := by have := yn85 hy; exact this
            show ((aI h' 84).set (memU st p).length (nI p)).getD i 0 = nI (gN (memU st p ++ [p]) i) ∧ gN (memU st p ++ [p]) i < (gDs S).length ∧ ((aI h' 85).set (memU st p).length (wtS S p)).getD i 0 = nI (wtN S (memU st p ++ [p]) i) ∧ wtN S (memU st p ++ [p]) i ≤ 3000000
            rw [getD_set, getD_set, y84, y85]
            unfold wtN
            by_cases z : i = (memU st p).length
            · subst z
              obtain ⟨wn, hwn, ewn⟩ := hv.worth p
              rw [if_pos ⟨rfl, by omega⟩, if_pos ⟨rfl, by omega⟩, gN_snoc_e, ewn, nI_clamp (by omega)]
              exact ⟨rfl, by omega, rfl, hwn⟩
            · obtain ⟨a1, a2, a3, a4⟩ := hp.2.2 i (by omega)
              rw [if_neg (fun y => z y.1), if_neg (fun y => z y.1), gN_snoc_l (by omega)]
              exact ⟨a1, a2, a3, a4⟩
theorem r_plan (hM : RM S h) (hv : Inv S) {st x : Int32} (q : ∀ h', RM S h' → OM h h' → Q (some (vi (planA S st x))) h') : Con l w true (d + 6) HX9_plan [vr 62, vi st, vi x] h 0 0 Q := by
  have h12 := hM.m2.2.1
  obtain ⟨nt, hnt1, hnt2, ent⟩ := hv.ng
  refine Con.of ok_X9_plan (nones := [none]) rfl (by simp) ?_
  have k13 : ¬ pgSet S st → Ex l w true mX9_plan (d + 6) Q 13 [some (vr 62), some (vi st), some (vi x), none] [] h 0 0 := by
    intro c
    rw [planA, if_neg c] at q
    refine go ok_X9_plan ?_
    exact q _ hM (OM.rf h)
  refine go ok_X9_plan ?_
  refine And.intro (fun c => ?_) (fun c => ?_)
  · exact k13 (fun z => absurd z.1 (by simpa using c))
  · refine go ok_X9_plan ?_
    refine asAnd ?_
    rw [hM.m2.1]
    refine And.intro (fun c2 => ?_) (fun c2 => ?_)
    · have hset : pgSet S st := ⟨by simpa using c, c2⟩
      rw [planA, if_pos hset] at q
      have eo := ons_set (x := st) (n := (gDs S).length) (by omega) hset.1 hset.2
      have k41 : ¬ (ons st.toInt64 ≤ 7 ∧ (-1 ≤ x ∧ x ≤ 11)) → Ex l w true mX9_plan (d + 6) Q 41 [some (vr 62), some (vi st), some (vi x), none] [] h 0 0 := by
        intro c
        rw [if_neg c] at q
        refine go ok_X9_plan ?_
        exact q _ hM (OM.rf h)
      refine go ok_X9_plan ?_
      refine Cal.z (r_ones ?_)
      refine go ok_X9_plan ?_
      refine And.intro (fun c3 => ?_) (fun c3 => ?_)
      · exact k41 (fun z => absurd z.1 (by simpa using c3))
      · have c3' : ons st.toInt64 ≤ 7 := by simpa using c3
        refine go ok_X9_plan ?_
        refine Cal.z (k_in (lo := -1) (hi := 11) rfl rfl rfl (fun c4 => ?_) (fun c4 => ?_))
        · rw [if_pos ⟨c3', c4⟩, ent, nI_clamp (by omega)] at q
          have hc7 : ctB (bt st) (gDs S).length ≤ 7 := by
            rw [eo] at c3'
            replace c3' : nI (ctB (bt st) (gDs S).length) ≤ nI 7 := c3'
            have := ctB_le (bt st) (gDs S).length
            rw [nI_leI (by omega) (by omega)] at c3'
            exact c3'
          refine go ok_X9_plan ?_
          refine And.intro (fun c5 => ?_) (fun c5 => absurd c5 (by decide))
          refine go ok_X9_plan ?_
          refine r_plan_loop (h := h) hv h12 hc7 (fun h' hM' ho hp => ?_) (gDs S).length 0 _ (by omega) hM ((OM.rf h).s (by decide)) ⟨rfl, Nat.zero_le _, fun i hi => absurd hi (Nat.not_lt_zero _)⟩
          have h7 := hp.2.1
          refine go ok_X9_plan ?_
          refine Cal.z (r_findPlan hM' hv hp hnt1 hnt2 ent (fun r s B hs hB es => ?_))
          obtain ⟨eB, eW⟩ := bstS_eq hB
          rw [← eW] at q
          have q := q _ (show RM S (tI (tI h' 86 r) 87 s) from hM') ((ho.t (by decide)).t (by decide))
          have hp2 : PLH S (memL S st) (tI (tI h' 86 r) 87 s) := hp
          refine Ex.lay (fun hy => ?_)
          refine go ok_X9_plan ?_
          refine And.intro (fun c6 => ?_) (fun c6 => ?_)
          · rw [if_neg c6] at q
            refine go ok_X9_plan ?_
            refine asAnd ?_
            rw [show hI (tI (tI h' 86 r) 87 s) 652 62 = nI nt from hM'.m5.2.2.1.trans ent]
            refine And.intro (fun c7 => ?_) (fun c7 => ?_)
            · rw [if_pos c7] at q
              refine go ok_X9_plan ?_
              exact q
            · rw [if_neg c7] at q
              have x0 : 0 ≤ x := by
                have h1 := c4.1
                rw [Int32.le_iff_toInt_le] at h1 ⊢
                have h2 : x.toInt ≠ -1 := fun z => c6 (by apply Int32.toInt_inj.mp; simpa using z)
                simp at h1 ⊢
                omega
              obtain ⟨k, hk, rfl⟩ := natOf (n := 11) (by decide) x0 c4.2
              rw [nI_leI (by omega) (by omega)] at c7
              rw [nI_clamp (by omega), ← eB k (by omega)] at q
              have hBk : B k ≤ (memL S st).length := by
                rcases hB.1 k (by omega) with e | e
                · omega
                · omega
              have es87 : (aI (tI (tI h' 86 r) 87 s) 87).getD (nI k).toNatClampNeg 0 = nI (B k) := by rw [nI_clamp (by omega)]; exact es k (by omega)
              refine go ok_X9_plan ?_
              refine And.intro (ix87 hy rfl (by omega)) ?_
              refine asAnd ?_
              rw [es87, show hI (tI (tI h' 86 r) 87 s) 687 62 = nI (memL S st).length from hp.1, nI_eq (by omega) (by omega)]
              refine And.intro (fun c8 => ?_) (fun c8 => ?_)
              · rw [if_neg c8] at q
                obtain ⟨a1, -, -, -⟩ := hp2.2.2 (B k) (by omega)
                refine go ok_X9_plan ?_
                refine And.intro (ix87 hy rfl (by omega)) ?_
                refine asAnd ?_
                rw [es87]
                refine And.intro (ix84 hy rfl (by omega)) ?_
                rw [nI_clamp (by omega), a1]
                exact q
              · rw [if_pos c8] at q
                refine go ok_X9_plan ?_
                exact q
          · rw [if_pos c6] at q
            refine go ok_X9_plan ?_
            exact q
        · refine go ok_X9_plan ?_
          refine And.intro (fun c5 => absurd c5 (by decide)) (fun c5 => ?_)
          exact k41 (fun z => c4 z.2)
    · exact k13 (fun z => c2 z.2)
end R27

