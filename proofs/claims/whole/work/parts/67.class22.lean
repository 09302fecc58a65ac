/-! ===== the class: the plan, settled ===== -/
def ltQ (S : SG) (k : Nat) : Nat := (ltA (gRt S) k).toNatClampNeg
section C22
variable {l : Launch} {w : WD} {d : Nat} {g h : AH} {Q : Option AV → AH → Prop} {S : SG} {G : GH} {p : Nat}
theorem Inv.ltq (hv : Inv S) {k : Nat} (hk : k < 6) : ltA (gRt S) k = nI (ltQ S k) ∧ ltQ S k ≤ 99 ∧ ((gNv S).getD k 0 = 0 → ltQ S k = ltS S k ∧ 1 ≤ ltQ S k) := by
  obtain ⟨t1, t2, t3⟩ := hv.lts hk
  have t1' : (gRt S).2.1.getD k 0 = nI (ltS S k) := t1
  unfold ltQ ltA
  rw [show (gRt S).1.getD k 0 = (gNv S).getD k 0 from rfl]
  by_cases c : (gNv S).getD k 0 = 0
  · rw [if_pos c, t1', nI_clamp (by omega)]
    exact ⟨rfl, t3, fun _ => ⟨rfl, t2⟩⟩
  · rw [if_neg c]
    exact ⟨rfl, by decide, fun z => absurd z c⟩
theorem PLC.pla (hv : Inv S) {cl : List Nat} (hc : PLC S cl h) (hr : PLR S h) {nt : Nat} (h1 : 1 ≤ nt) (h2 : nt ≤ 12) (e : gNg S = nI nt) : PLA cl.length (gN cl) (drS S cl) (wtN S cl) (ltQ S) nt h := by
  obtain ⟨b1, b2, b3, b4⟩ := hc
  refine ⟨⟨b1, b2⟩, ⟨hr.1.trans e, h1, h2⟩, fun i hi => ?_, b4, fun k hk => ?_, fun i hi => ?_⟩
  · obtain ⟨⟨c1, c2⟩, c3, c4, c5⟩ := b3 i hi
    refine ⟨c3, c4, (hv.drs c1).2, c5, ?_⟩
    unfold wtN
    obtain ⟨m, hm, em⟩ := hv.worth (gN cl i)
    rw [em, nI_clamp (by omega)]
    exact hm
  · exact ⟨(hr.2.1 k hk).1.trans (hv.ltq hk).1, (hv.ltq hk).2.1⟩
  · obtain ⟨⟨c1, c2⟩, -⟩ := b3 i hi
    obtain ⟨d1, d2⟩ := hv.drs c1
    refine ((hv.ltq d2).2.2 ?_).2
    unfold okq at c2
    exact of_decide_eq_true c2
theorem c_settle (hK : KP S G g h) (hv : Inv S) {cl : List Nat} (hc : PLC S cl h) (hr : PLR S h) {nt : Nat} (h1 : 1 ≤ nt) (h2 : nt ≤ 12) (e : gNg S = nI nt)
    (q : ∀ h' B, KP S G g h' → BstP (fun P => vldP cl.length (drS S cl) (fun _ => true) (ltQ S) P nt) (fun P => wsm cl.length (wtN S cl) P nt) nt B → hI h' 265 42 = nI (wsm cl.length (wtN S cl) B nt) → (∀ k, k < 12 → (aI h' 51).getD k 0 = if k < nt then tvP cl.length (gN cl) (B k) else -1) → Q none h') : Con l w true (d + 27) HX3_settle [vr 42] h 0 0 Q := by
  have hp := hc.pla hv hr h1 h2 e
  refine Con.of ok_X3_settle (nones := []) rfl (by simp) ?_
  refine go ok_X3_settle ?_
  refine Cal.z (c_searchA nt 0 (by omega) (d + 26) _ _ (fun _ => 0) (fun _ => False) none 0 (by omega) (hK.s (by decide)) hp ?_ (fun j hj => by rw [b_0]; rfl) (fun k hk => by omega) SIc.nil (Ahd.nil _) (fun h' o' hK' hp' hs' hc' => ?_))
  · refine ⟨fun k hk => (hr.2.1 k hk).2, fun k hk => ⟨fun z => by omega, fun _ => (hr.2.2 k hk).1⟩, rfl, fun B z => by cases z⟩
  · obtain ⟨B, rfl, hB⟩ := hc'.best ⟨fun _ => cl.length, fun k hk => Or.inl rfl⟩
    refine go ok_X3_settle ?_
    exact q h' B hK' (vldR_best hB) hs'.2.2.1 (hs'.2.2.2 B rfl)
theorem clU_s (S : SG) (st : Int32) (p : Nat) : clU S st (p + 1) = if bt st p = true then fPl S (clU S st p) p else clU S st p := by
  unfold clU fPl
  rw [memU_s]
  split
  · rw [List.filter_append]
    by_cases c : okq S p = true
    · rw [if_pos c, List.filter_cons_of_pos c]; rfl
    · rw [if_neg c, List.filter_cons_of_neg c, List.filter_nil, List.append_nil]
  · rfl
theorem plan_lp (hv : Inv S) {nt : Nat} (hnt1 : 1 ≤ nt) (hnt2 : nt ≤ 12) (ent : gNg S = nI nt) (h12 : (gDs S).length ≤ 12) {st x : Int32} (hc7 : ctB (bt st) (gDs S).length ≤ 7) (hx : -1 ≤ x ∧ x ≤ 11) (q : ∀ h', RC S G h' → OX h h' → Q (some (vi (if x = -1 then nI (plW S (memL S st) nt (bstS S (memL S st) nt)) else if nI nt ≤ x then -1 else if bstS S (memL S st) nt x.toNatClampNeg = (memL S st).length then -1 else nI (gN (memL S st) (bstS S (memL S st) nt x.toNatClampNeg))))) h') : ∀ n p h', p + n = (gDs S).length → KP S G h h' → PLR S h' → PLC S (clU S st p) h' → Ex l w true mX8_plan (d + 28) Q 49 [some (vr 32), some (vi st), some (vi x), some (vi (nI p))] [] h' 0 0 := by
  intro n
  induction n with
  | zero =>
    intro p h' hi hK hr hc
    have : p = (gDs S).length := by omega
    subst this
    refine go ok_X8_plan ?_
    refine And.intro hK.1.pg.1 ?_
    refine Cal.z (hK.1.psize ?_)
    refine go ok_X8_plan ?_
    refine asAnd ?_
    rw [nI_leI (by omega) (by omega)]
    refine And.intro (fun c => ?_) (fun c => ?_)
    · refine go ok_X8_plan ?_
      refine Cal.z (c_settle hK hv hc hr hnt1 hnt2 ent (fun h2 B hK2 hB e1 e2 => ?_))
      obtain ⟨e, E, he⟩ := emb_filter (okq S) (memL S st)
      replace he : ∀ i, i < (clU S st (gDs S).length).length → gN (memL S st) (e i) = gN (clU S st (gDs S).length) i := he
      replace E : EMB (clU S st (gDs S).length).length (memL S st).length (fun i => okq S (gN (memL S st) i)) e := E
      generalize clU S st (gDs S).length = cl at *
      have hw : ∀ i, i < cl.length → wtN S (memL S st) (e i) = wtN S cl i := fun i hi => by unfold wtN; rw [he i hi]
      have hd : ∀ i, i < cl.length → drS S (memL S st) (e i) = drS S cl i := fun i hi => by unfold drS; rw [he i hi]
      have hl : ∀ i, i < cl.length → ltS S (drS S cl i) = ltQ S (drS S cl i) := fun i hi => by
        obtain ⟨⟨x1, x2⟩, -⟩ := hc.2.2.1 i hi
        unfold okq at x2
        exact ((hv.ltq (hv.drs x1).2).2.2 (of_decide_eq_true x2)).1.symm
      have hB2 := E.best hd hl hw hB
      have bnd : ∀ k, k < nt → B k ≤ cl.length := fun k hk => by rcases hB.1 k hk with z | z <;> omega
      obtain ⟨eB, eW⟩ := bstS_eq (S := S) (mem := memL S st) (nt := nt) hB2
      rw [← eW, show plW S (memL S st) nt (fun k => e (B k)) = wsm cl.length (wtN S cl) B nt from E.wsmE hw nt bnd, ← e1] at q
      have q := q h2 hK2.1 hK2.2
      refine Ex.lay (fun hy => ?_)
      refine go ok_X8_plan ?_
      refine And.intro (fun c2 => ?_) (fun c2 => ?_)
      · rw [if_neg c2] at q
        have x0 : 0 ≤ x := by
          have h1 := hx.1
          rw [Int32.le_iff_toInt_le] at h1 ⊢
          have h2 : x.toInt ≠ -1 := fun z => c2 (by apply Int32.toInt_inj.mp; simpa using z)
          simp at h1 ⊢
          omega
        obtain ⟨k, hk, rfl⟩ := natOf (n := 11) (by decide) x0 hx.2
        rw [nI_clamp (by omega)] at q
        have e2k := e2 k (by omega)
        refine go ok_X8_plan ?_
        refine And.intro (ix51 hy rfl (by omega)) ?_
        rw [nI_clamp (by omega), e2k]
        by_cases c3 : nt ≤ k
        · rw [if_pos ((nI_leI (by omega) (by omega)).mpr c3)] at q
          rw [if_neg (by omega)]
          exact q
        · rw [if_neg (fun z => c3 ((nI_leI (by omega) (by omega)).mp z)), ← eB k (by omega)] at q
          rw [if_pos (by omega)]
          unfold tvP
          by_cases c4 : B k < cl.length
          · rw [if_pos c4]
            rw [if_neg (fun z => by have := ((E.ltE (bnd k (by omega))).2.mp z); omega), he _ c4] at q
            exact q
          · rw [if_neg c4]
            have := bnd k (by omega)
            rw [if_pos ((E.ltE (by omega)).2.mpr (by omega))] at q
            exact q
      · rw [if_pos c2] at q
        refine go ok_X8_plan ?_
        exact q
    · omega
  | succ n ih =>
    intro p h' hi hK hr hc
    have hcu := clU_s S st p
    have k118 : ∀ h2, KP S G h h2 → PLR S h2 → PLC S (clU S st (p + 1)) h2 → Ex l w true mX8_plan (d + 28) Q 118 [some (vr 32), some (vi st), some (vi x), some (vi (nI p))] [] h2 0 0 := by
      intro h2 x1 x2 x3
      have hh := ih (p + 1) h2 (by omega) x1 x2 x3
      rw [← nI_1] at hh
      refine go ok_X8_plan ?_
      exact hh
    have hp4 := hK.1.pv (p := p) (by omega)
    refine Ex.lay (fun hy => ?_)
    refine go ok_X8_plan ?_
    refine And.intro hK.1.pg.1 ?_
    refine Cal.z (hK.1.psize ?_)
    refine go ok_X8_plan ?_
    refine asAnd ?_
    rw [nI_leI (by omega) (by omega)]
    refine And.intro (fun c => ?_) (fun c => ?_)
    · omega
    · refine go ok_X8_plan ?_
      refine asAnd ?_
      rw [b_get (by omega)]
      refine And.intro (fun c2 => ?_) (fun c2 => ?_)
      · rw [if_neg (by rw [c2]; decide)] at hcu
        exact k118 h' hK hr (by rw [hcu]; exact hc)
      · have c2' : bt st p = true := by simpa using c2
        rw [if_pos c2'] at hcu
        have hlen : (clU S st p).length ≤ 6 := by
          have h1 : (clU S st p).length ≤ (memU st p).length := List.length_filter_le ..
          rw [memU_len] at h1
          have h2 := ctB_mono (bt st) (m := p + 1) n
          rw [show p + 1 + n = (gDs S).length by omega, ctB, if_pos c2'] at h2
          omega
        refine go ok_X8_plan ?_
        refine And.intro hK.1.pg.1 ?_
        refine Cal.z (hK.1.pget (by omega) ?_)
        refine go ok_X8_plan ?_
        refine And.intro (Or.inr hp4) ?_
        refine And.intro hK.1.pg.1 ?_
        refine Cal.z (hK.1.pget (by omega) ?_)
        refine go ok_X8_plan ?_
        refine And.intro (Or.inr hp4) ?_
        refine And.intro hp4 ?_
        refine asCal ?_
        rw [hK.1.now]
        refine Cal.z (c_worthAt hK.1 hv (by omega) ?_)
        refine go ok_X8_plan ?_
        refine Cal.z (c_offer hK hv (by omega) hlen hc hr (fun h2 hK2 hr2 hc2 _ => ?_))
        exact k118 h2 hK2 hr2 (by rw [hcu]; exact hc2)
theorem c_plan (hC : RC S G h) (hv : Inv S) {st x : Int32} (q : ∀ h', RC S G h' → OX h h' → Q (some (vi (planA S st x))) h') : Con l w true (d + 28) HX8_plan [vr 32, vi st, vi x] h 0 0 Q := by
  have h12 := hC.pgs.2.1
  obtain ⟨nt, hnt1, hnt2, ent⟩ := hv.ng
  refine Con.of ok_X8_plan (nones := [none]) rfl (by simp) ?_
  refine go ok_X8_plan ?_
  refine Cal.z (k_arePages hC (fun hset => ?_) (fun hset => ?_))
  · rw [planA, if_pos hset] at q
    have eo := ons_set (x := st) (n := (gDs S).length) (by omega) hset.1 hset.2
    refine go ok_X8_plan ?_
    refine And.intro (fun c => ?_) (fun c => absurd c (by decide))
    refine go ok_X8_plan ?_
    refine Cal.z (j_bitCountI hset.1 ?_)
    have k32 : ¬ (ons st.toInt64 ≤ 7 ∧ (-1 ≤ x ∧ x ≤ 11)) → Ex l w true mX8_plan (d + 28) Q 32 [some (vr 32), some (vi st), some (vi x), none] [] h 0 0 := by
      intro c
      rw [if_neg c] at q
      refine go ok_X8_plan ?_
      exact q h hC (OX.rf h)
    refine go ok_X8_plan ?_
    refine And.intro (fun c1 => ?_) (fun c1 => ?_)
    · exact k32 (fun z => by have := z.1; rw [Int32.lt_iff_toInt_lt] at c1; rw [Int32.le_iff_toInt_le] at this; omega)
    · have c1' : ons st.toInt64 ≤ 7 := by simpa using c1
      refine go ok_X8_plan ?_
      refine And.intro (fun c2 => ?_) (fun c2 => ?_)
      · exact k32 (fun z => by have := z.2.1; rw [Int32.lt_iff_toInt_lt] at c2; rw [Int32.le_iff_toInt_le] at this; omega)
      · refine go ok_X8_plan ?_
        refine And.intro (fun c3 => ?_) (fun c3 => ?_)
        · have hx : -1 ≤ x ∧ x ≤ 11 := ⟨by simpa using c2, by rw [Int32.lt_iff_toInt_lt] at c3; rw [Int32.le_iff_toInt_le]; simp at c3 ⊢; omega⟩
          rw [if_pos ⟨c1', hx⟩, ent, nI_clamp (by omega)] at q
          have hc7 : ctB (bt st) (gDs S).length ≤ 7 := by
            rw [eo] at c1'
            replace c1' : nI (ctB (bt st) (gDs S).length) ≤ nI 7 := c1'
            have := ctB_le (bt st) (gDs S).length
            rw [nI_leI (by omega) (by omega)] at c1'
            exact c1'
          refine go ok_X8_plan ?_
          refine Cal.z (c_open ⟨hC, OX.rf h⟩ (fun h1 hK1 hr1 hc1 => ?_))
          refine go ok_X8_plan ?_
          exact plan_lp hv hnt1 hnt2 ent h12 hc7 hx q (gDs S).length 0 h1 (by omega) hK1 hr1 hc1
        · exact k32 (fun z => by have := z.2.2; rw [Int32.lt_iff_toInt_lt] at c3; rw [Int32.le_iff_toInt_le] at this; simp at this c3; omega)
  · rw [planA, if_neg hset] at q
    refine go ok_X8_plan ?_
    refine And.intro (fun c => absurd c (by decide)) (fun c => ?_)
    refine go ok_X8_plan ?_
    exact q h hC (OX.rf h)
end C22

