/-! ===== the class: the plan, settled ===== -/
def ltQ (S : SG) (k : Nat) : Nat := (ltA (gRt S) k).toNatClampNeg
section C22
variable {l : Launch} {w : WD} {d : Nat} {g h : AH} {Q : Option AV → AH → Prop} {S : SG} {G : GH} {p : Nat}
theorem Inv.ltq (hv : Inv S) {k : Nat} (hk : k < 6) : ltA (gRt S) k = nI (ltQ S k) ∧ ltQ S k ≤ 99 ∧ ((gNv S).getD k 0 = 0 → ltQ S k = ltS S k ∧ 1 ≤ ltQ S k) := by
  obtain ⟨t1, t2, t3⟩ := hv.lts hk
  have t1' : (gRt S).2.1.getD k 0 = nI (ltS S k) := t1
  unfold ltQ ltA
  rw [show (gRt S).1.getD k 0 = (gNv S).getD k 0 from rfl]
  by_cases c : (gNv S).getD k 0 = 0
  · rw [if_pos c, t1', nI_clamp (by omega)]
    exact ⟨rfl, t3, fun _ => ⟨rfl, t2⟩⟩
  · rw [if_neg c]
    exact ⟨rfl, by decide, fun z => absurd z c⟩
theorem PLC.pla (hv : Inv S) {cl : List Nat} (hc : PLC S cl h) (hr : PLR S h) {nt : Nat} (h1 : 1 ≤ nt) (h2 : nt ≤ 12) (e : gNg S = nI nt) : PLA cl.length (gN cl) (drS S cl) (wtN S cl) (ltQ S) nt h := by
  obtain ⟨b1, b2, b3, b4⟩ := hc
  refine ⟨⟨b1, b2⟩, ⟨hr.1.trans e, h1, h2⟩, fun i hi => ?_, b4, fun k hk => ?_, fun i hi => ?_⟩
  · obtain ⟨⟨c1, c2⟩, c3, c4, c5⟩ := b3 i hi
    refine ⟨c3, c4, (hv.drs c1).2, c5, ?_⟩
    unfold wtN
    obtain ⟨m, hm, em⟩ := hv.worth (gN cl i)
    rw [em, nI_clamp (by omega)]
    exact hm
  · exact ⟨(hr.2.1 k hk).1.trans (hv.ltq hk).1, (hv.ltq hk).2.1⟩
  · obtain ⟨⟨c1, c2⟩, -⟩ := b3 i hi
    obtain ⟨d1, d2⟩ := hv.drs c1
    refine ((hv.ltq d2).2.2 ?_).2
    unfold okq at c2
    exact of_decide_eq_true c2
theorem c_settle (hK : KP S G g h) (hv : Inv S) {cl : List Nat} (hc : PLC S cl h) (hr : PLR S h) {nt : Nat} (h1 : 1 ≤ nt) (h2 : nt ≤ 12) (e : gNg S = nI nt)
    (q : ∀ h' B, KP S G g h' → BstP (fun P => vldP cl.length (drS S cl) (fun _ => true) (ltQ S) P nt) (fun P => wsm cl.length (wtN S cl) P nt) nt B → hI h' 265 42 = nI (wsm cl.length (wtN S cl) B nt) → (∀ k, k < 12 → (aI h' 51).getD k 0 = if k < nt then tvP cl.length (gN cl) (B k) else -1) → Q none h') : Con l w true (d + 27) HX3_settle [vr 42] h 0 0 Q := by
  have hp := hc.pla hv hr h1 h2 e
  refine Con.of ok_X3_settle (nones := []) rfl (by simp) ?_
  refine go ok_X3_settle ?_
  refine Cal.z (c_searchA nt 0 (by omega) (d + 26) _ _ (fun _ => 0) (fun _ => False) none 0 (by omega) (hK.s (by decide)) hp ?_ (fun j hj => by rw [b_0]; rfl) (fun k hk => by omega) SIc.nil (Ahd.nil _) (fun h' o' hK' hp' hs' hc' => ?_))
  · refine ⟨fun k hk => (hr.2.1 k hk).2, fun k hk => ⟨fun z => by omega, fun _ => (hr.2.2 k hk).1⟩, rfl, fun B z => by cases z⟩
  · obtain ⟨B, rfl, hB⟩ := hc'.best ⟨fun _ => cl.length, fun k hk => Or.inl rfl⟩
    refine go ok_X3_settle ?_
    exact q h' B hK' (vldR_best hB) hs'.2.2.1 (hs'.2.2.2 B rfl)
theorem clU_s (S : SG) (st : Int32) (p : Nat) : clU S st (p + 1) = if bt st p = true then fPl S (clU S st p) p else clU S st p := by
  unfold clU fPl
  rw [memU_s]
  split
  · rw [List.filter_append]
    by_cases c : okq S p = true
    · rw [if_pos c, List.filter_cons_of_pos c]; rfl
    · rw [if_neg c, List.filter_cons_of_neg c, List.filter_nil, List.append_nil]
  · rfl
theorem c_plan (hC : RC S G h) (hv : Inv S) {st x : Int32} (q : ∀ h', RC S G h' → OX h h' → Q (some (vi (planA S st x))) h') : Con l w true (d + 28) HX8_plan [vr 32, vi st, vi x] h 0 0 Q := by
  have h12 := hC.pgs.2.1
  obtain ⟨nt, hnt1, hnt2, ent⟩ := hv.ng
  refine Con.of ok_X8_plan (nones := [none]) rfl (by simp) ?_
  refine go ok_X8_plan ?_
  refine Cal.z (k_arePages hC (fun hset => ?_) (fun hset => ?_))
  · rw [planA, if_pos hset] at q
    have eo := ons_set (x := st) (n := (gDs S).length) (by omega) hset.1 hset.2
    refine go ok_X8_plan ?_
    refine And.intro (fun c => ?_) (fun c => absurd c (by decide))
    refine go ok_X8_plan ?_
    refine Cal.z (j_bitCountI hset.1 ?_)
    have k32 : ¬ (ons st.toInt64 ≤ 7 ∧ (-1 ≤ x ∧ x ≤ 11)) → Ex l w true mX8_plan (d + 28) Q 32 [some (vr 32), some (vi st), some (vi x), none] [] h 0 0 := by
      intro c
      rw [if_neg c] at q
      refine go ok_X8_plan ?_
      exact q h hC (OX.rf h)
    refine go ok_X8_plan ?_
    refine And.intro (fun c1 => ?_) (fun c1 => ?_)
    · exact k32 (fun z => by have := z.1; rw [Int32.lt_iff_toInt_lt] at c1; rw [Int32.le_iff_toInt_le] at this; omega)
    · have c1' : ons st.toInt64 ≤ 7 := by simpa using c1
      refine go ok_X8_plan ?_
      refine And.intro (fun c2 => ?_) (fun c2 => ?_)
      · exact k32 (fun z => by have := z.2.1; rw [Int32.lt_iff_toInt_lt] at c2; rw [Int32.le_iff_toInt_le] at this; omega)
      · refine go ok_X8_plan ?_
        refine And.intro (fun c3 => ?_) (fun c3 => ?_)
        · sorry
        · exact k32 (fun z => by have := z.2.2; rw [Int32.lt_iff_toInt_lt] at c3; rw [Int32.le_iff_toInt_le] at this; simp at this c3; omega)
  · rw [planA, if_neg hset] at q
    refine go ok_X8_plan ?_
    refine And.intro (fun c => absurd c (by decide)) (fun c => ?_)
    refine go ok_X8_plan ?_
    exact q h hC (OX.rf h)
end C22

