/-! ===== the class: what it was ===== -/
theorem Inv.lk {S : SG} (hv : Inv S) {k : Nat} (hk : k < (gD S).length) : lkOK (gNw S) (gDs S).length (lkD (gD S) k) := hv.2.2.1 k hk
theorem isV_kd {D : List LK} {k : Nat} (h : isV D k = true) : kdD D k = 0 ∨ kdD D k = 1 := by
  unfold isV at h
  simp only [Bool.and_eq_true, Bool.or_eq_true, decide_eq_true_eq] at h
  exact h.2
theorem isV_3 {D : List LK} {k : Nat} (h : isV D k = true) : ¬ kdD D k = 3 := by
  rcases isV_kd h with e | e <;> rw [e] <;> decide
def oa (la : List Nat) (o : Option Nat) : Nat := match o with
  | none => 0
  | some k => gN la k
def ffO (D : List LK) (vs : List Nat) (t : Int32) : Nat → Option Nat
  | 0 => none
  | i + 1 => (ffO D vs t i).or (if t ≤ hrD D (gN vs i) then some (gN vs i) else none)
def lkT (D : List LK) (cl : Int64) (pt : Int32) (vs : List Nat) (l : Nat) (t : Int32) : Nat → Bool
  | 0 => false
  | i + 1 => lkT D cl pt vs l t i || (clm D cl pt vs t i && alk D cl l (gN vs i))
def lkU (D : List LK) (cl : Int64) (pt : Int32) (vs : List Nat) (l : Nat) (t : Int32) : Nat → Bool
  | 0 => false
  | i + 1 => lkU D cl pt vs l t i || (clm D cl pt vs t i && !alk D cl l (gN vs i))
def cuC (D : List LK) (cl : Int64) (vs : List Nat) (l : Nat) (t : Int32) : Bool := (shnR D vs t vs.length).any (alk D cl l) || (ffO D vs t vs.length).any (alk D cl l)
def stC (D : List LK) (cl : Int64) (pt : Int32) (vs : List Nat) (l : Nat) (t : Int32) : Int32 :=
  if lkT D cl pt vs l t vs.length = false ∧ lkU D cl pt vs l t vs.length = false then b2i (cuC D cl vs l t) else if lkT D cl pt vs l t vs.length = false then 0 else if lkU D cl pt vs l t vs.length = true then 1 else 2
theorem fb_add1 {x : Int32} (h : x.toInt < 2147483647) : (x + 1).toInt = x.toInt + 1 := by
  have h1 : -2147483648 ≤ x.toInt := by have := x.toBitVec.le_toInt; show -2147483648 ≤ x.toBitVec.toInt; simpa using this
  rw [Int32.toInt_add]
  show (x.toInt + 1).bmod (2 ^ 32) = _
  rw [Int.bmod_eq_of_le] <;> omega
theorem fb_sub1 {x : Int32} (h : 0 ≤ x.toInt) : (x - 1).toInt = x.toInt - 1 := by
  have h1 : x.toInt < 2147483648 := by have := x.toBitVec.toInt_lt; show x.toBitVec.toInt < 2147483648; simpa using this
  rw [Int32.toInt_sub]
  show (x.toInt - 1).bmod (2 ^ 32) = _
  rw [Int.bmod_eq_of_le] <;> omega
section C2
variable {l : Launch} {w : WD} {d : Nat} {h : AH} {Q : Option AV → AH → Prop} {S : SG} {G : GH} {p : Nat}
/-- a list holds looks -/
def FV (S : SG) (G : GH) (vs : List Nat) (b : Nat) (h : AH) : Prop := AL h b (vwA (gLa G) vs) ∧ ∀ i, i < vs.length → gN vs i < (gD S).length ∧ isV (gD S) (gN vs i) = true
theorem RC.fv (hc : RC S G h) (hp : p < (gDs S).length) : hC h (gN (gPa G) p) = 4 ∧ FV S G (vws (gD S) p) (hR h 194 (gN (gPa G) p)) h := by
  obtain ⟨⟨t1, -⟩, -, -, t2, -⟩ := hc.pgs.2.2 p hp
  exact ⟨t1, t2, fun i hi => ⟨(vws_in hi).1, (vws_in hi).2.2⟩⟩
variable {vs : List Nat} {b : Nat}
theorem FV.size (hf : FV S G vs b h) (q : Q (some (vi (nI vs.length))) h) : Con l w true d HJx4a65c_size_8abf5 [vr b] h 0 0 Q := j_size hf.1 (by rw [vwA_len]; exact q)
theorem FV.get (hf : FV S G vs b h) {i : Nat} (hi : i < vs.length) (q : Q (some (vr (gN (gLa G) (gN vs i)))) h) : Con l w true (d + 2) HJx4a65c_get_915e3 [vr b, vi (nI i)] h 0 0 Q := j_get hf.1 (by rw [vwA_len]; exact hi) (by rw [gN_vwA hi]; exact q)
theorem FV.len (hf : FV S G vs b h) : vs.length ≤ 150 := by have := hf.1.len; rwa [vwA_len] at this
theorem FV.t3 (hc : RC S G h) (hf : FV S G vs b h) {i : Nat} (hi : i < vs.length) : hC h (gN (gLa G) (gN vs i)) = 3 := (hc.lks.2 _ (hf.2 i hi).1).1.1
theorem c_start (hc : RC S G h) (hv : Inv S) {k : Nat} (hk : k < (gD S).length) (hvk : isV (gD S) k = true) (q : Q (some (vi (fromD (gD S) k))) h) : Con l w true d HX1_start [vr (gN (gLa G) k)] h 0 0 Q := by
  obtain ⟨⟨t1, -⟩, -, -, t2, -, t3, -, -⟩ := hc.lks.2 k hk
  have e3 : dtC (gD S) k = dtD (gD S) k := by unfold dtC; rw [if_neg (isV_3 hvk)]
  have hd : -1 ≤ dtD (gD S) k := (hv.lk hk).2.2.2.2.1.1
  refine Con.of ok_X1_start (nones := []) rfl (by simp) ?_
  refine go ok_X1_start ?_
  refine And.intro t1 ?_
  refine asAnd ?_
  rw [t3, e3]
  unfold fromD at q
  refine And.intro (fun c => ?_) (fun c => ?_)
  · rw [if_neg (fun z => c (by
      apply Int32.toInt_inj.mp
      rw [Int32.le_iff_toInt_le] at hd
      rw [Int32.lt_iff_toInt_lt] at z
      simp at hd z ⊢
      omega))] at q
    refine go ok_X1_start ?_
    refine And.intro t1 ?_
    rw [t3, e3]
    exact q
  · rw [if_pos (by rw [show dtD (gD S) k = -1 from c]; decide)] at q
    refine go ok_X1_start ?_
    refine And.intro t1 ?_
    rw [t2]
    exact q
def frm (D : List LK) (cl : Int64) (k : Nat) : Int64 := if kdD D k = 1 then -1 else stD D k &&& (cl ^^^ (-1))
theorem c_form (hc : RC S G h) {k : Nat} (hk : k < (gD S).length) {cl : Int64} (q : Q (some (vl (frm (gD S) cl k))) h) : Con l w true d HX1_form [vr (gN (gLa G) k), vl cl] h 0 0 Q := by
  obtain ⟨⟨t1, -⟩, -, -, -, t2, -, t3, -⟩ := hc.lks.2 k hk
  refine Con.of ok_X1_form (nones := []) rfl (by simp) ?_
  refine go ok_X1_form ?_
  refine And.intro t1 ?_
  refine asAnd ?_
  rw [t2, kdC_1]
  refine And.intro (fun c => ?_) (fun c => ?_)
  · rw [frm, if_neg c] at q
    refine go ok_X1_form ?_
    refine And.intro t1 ?_
    rw [t3]
    exact q
  · rw [frm, if_pos c] at q
    refine go ok_X1_form ?_
    exact q
theorem p60_bit {x : Int64} (h0 : 0 ≤ x) : bl x 63 = false := by
  unfold bl
  have : x.toBitVec.msb = false := by
    rw [BitVec.msb_eq_toInt]
    have h1 : (0 : Int) ≤ x.toInt := by have := Int64.le_iff_toInt_le.mp h0; simpa using this
    exact decide_eq_false (by show ¬ x.toInt < 0; omega)
  rw [BitVec.msb_eq_getLsbD_last] at this
  exact this
theorem frm_eq (hv : Inv S) {a b : Nat} (ha : a < (gD S).length) (hb : b < (gD S).length) (hva : isV (gD S) a = true) (hvb : isV (gD S) b = true) {cl : Int64} : (frm (gD S) cl a = frm (gD S) cl b) ↔ alk (gD S) cl a b = true := by
  have p1 : ∀ k, k < (gD S).length → ¬ stD (gD S) k &&& (cl ^^^ (-1)) = -1 := fun k hk z => by
    have h1 := congrArg (fun y => bl y 63) z
    simp only [l_and] at h1
    rw [l_m1 63 (by decide), show bl (stD (gD S) k) 63 = false from p60_bit (hv.lk hk).2.2.2.1.1] at h1
    cases h1
  unfold frm alk ncl
  rcases isV_kd hva with e1 | e1 <;> rcases isV_kd hvb with e2 | e2 <;> rw [e1, e2]
  · rw [if_neg (by decide), if_neg (by decide)]; simp
  · rw [if_neg (by decide), if_pos rfl]
    constructor
    · intro z; exact absurd z (p1 a ha)
    · intro z; simp at z
  · rw [if_pos rfl, if_neg (by decide)]
    constructor
    · intro z; exact absurd z.symm (p1 b hb)
    · intro z; simp at z
  · rw [if_pos rfl, if_pos rfl]; simp
theorem c_sameForm (hc : RC S G h) (hv : Inv S) {a b : Nat} (ha : a < (gD S).length) (hb : b < (gD S).length) (hva : isV (gD S) a = true) (hvb : isV (gD S) b = true) (q : Q (some (vi (b2i (alk (gD S) (gCl S) a b)))) h) : Con l w true (d + 1) HX5_sameForm [vr (hR h 583 32), vr (gN (gLa G) a), vr (gN (gLa G) b)] h 0 0 Q := by
  obtain ⟨⟨t1, -⟩, -⟩ := hc.lks.2 a ha
  obtain ⟨⟨t2, -⟩, -⟩ := hc.lks.2 b hb
  have r1 := hc.rt.1
  have r2 : hL h 390 (hR h 583 32) = gCl S := hc.rt.2.2.2.2.2.2
  refine Con.of ok_X5_sameForm (nones := []) rfl (by simp) ?_
  refine go ok_X5_sameForm ?_
  refine And.intro r1 ?_
  refine asAnd ?_
  refine And.intro t1 ?_
  refine asCal ?_
  rw [r2]
  refine Cal.z (c_form hc ha ?_)
  refine go ok_X5_sameForm ?_
  refine And.intro r1 ?_
  refine asAnd ?_
  refine And.intro t2 ?_
  refine asCal ?_
  rw [r2]
  refine Cal.z (c_form hc hb ?_)
  refine go ok_X5_sameForm ?_
  refine asAnd ?_
  rw [lg_cmp_eq, frm_eq hv ha hb hva hvb]
  refine And.intro (fun c => ?_) (fun c => ?_)
  · rw [show alk (gD S) (gCl S) a b = false by simpa using c] at q
    refine go ok_X5_sameForm ?_
    refine And.intro (Or.inl rfl) ?_
    exact q
  · rw [c] at q
    refine go ok_X5_sameForm ?_
    refine And.intro (Or.inr rfl) ?_
    exact q
theorem c_has (hc : RC S G h) {k : Nat} (hk : k < (gD S).length) {pc : Int32} (hp : 0 ≤ pc ∧ pc ≤ 59) (q : Q (some (vi (b2i (hasB (gD S) pc k)))) h) : Con l w true d HX1_has [vr (gN (gLa G) k), vi pc] h 0 0 Q := by
  obtain ⟨⟨t1, -⟩, -, -, -, -, -, t3, -⟩ := hc.lks.2 k hk
  obtain ⟨n, hn, rfl⟩ := natOf (n := 59) (by decide) hp.1 hp.2
  refine Con.of ok_X1_has (nones := []) rfl (by simp) ?_
  refine go ok_X1_has ?_
  refine And.intro t1 ?_
  refine asAnd ?_
  rw [t3, lg_cmp_eq, l_get0 (by omega)]
  unfold hasB at q
  refine And.intro (fun c => ?_) (fun c => ?_)
  · rw [decide_eq_false (by rw [l_get1 (by omega), c]; decide)] at q
    refine go ok_X1_has ?_
    refine And.intro (Or.inl rfl) ?_
    exact q
  · rw [decide_eq_true (by rw [l_get1 (by omega)]; simpa using c)] at q
    refine go ok_X1_has ?_
    refine And.intro (Or.inr rfl) ?_
    exact q
theorem Inv.hr (hv : Inv S) {k : Nat} (hk : k < (gD S).length) : 0 ≤ (hrD (gD S) k).toInt ∧ (hrD (gD S) k).toInt ≤ 3000 := by
  obtain ⟨e, h1, -⟩ := hv.hn hk
  rw [e, nI_toInt (by omega)]
  omega
theorem c_claims (hc : RC S G h) (hv : Inv S) (hp : p < (gDs S).length) {i : Nat} (hi : i < (vws (gD S) p).length) {t : Int32} (q : Q (some (vi (b2i (clm (gD S) (gCl S) (gPt S) (vws (gD S) p) t i)))) h) : Con l w true (d + 3) HX2_claims [vr (gN (gPa G) p), vi (nI i), vi t, vr (hR h 583 32)] h 0 0 Q := by
  obtain ⟨t4, hf⟩ := hc.fv hp
  have h150 := hf.len
  generalize vws (gD S) p = vs at hf q hi h150
  obtain ⟨l1, v1⟩ := hf.2 i hi
  obtain ⟨⟨t1, -⟩, -, -, t2, -⟩ := hc.lks.2 _ l1
  obtain ⟨u1, u2⟩ := hv.hr l1
  unfold clm at q
  refine Con.of ok_X2_claims (nones := [none, none]) rfl (by simp) ?_
  refine go ok_X2_claims ?_
  refine And.intro t4 ?_
  refine asAnd ?_
  refine And.intro hf.1.1 ?_
  refine Cal.z (hf.get hi ?_)
  refine go ok_X2_claims ?_
  refine And.intro (Or.inr t1) ?_
  refine asAnd ?_
  refine And.intro t1 ?_
  refine asAnd ?_
  rw [t2]
  refine And.intro (fun c => ?_) (fun c => ?_)
  · -- behind the look
    rw [decide_eq_false (show ¬ t ≤ hrD (gD S) (gN vs i) by simpa using c), Bool.and_false, Bool.false_or] at q
    refine go ok_X2_claims ?_
    refine And.intro t4 ?_
    refine asAnd ?_
    refine And.intro hf.1.1 ?_
    refine Cal.z (hf.size ?_)
    refine go ok_X2_claims ?_
    refine asAnd ?_
    rw [nI_1, nI_ltI (by omega) (by omega)]
    refine And.intro (fun c2 => ?_) (fun c2 => ?_)
    · obtain ⟨l2, v2⟩ := hf.2 (i + 1) c2
      obtain ⟨⟨s1, -⟩, -, -, s2, -⟩ := hc.lks.2 _ l2
      obtain ⟨w1, w2⟩ := hv.hr l2
      have e1 : decide (hrD (gD S) (gN vs i) + 1 ≤ t) = true := by
        apply decide_eq_true
        rw [Int32.le_iff_toInt_le, fb_add1 (by omega)]
        rw [Int32.lt_iff_toInt_lt] at c
        omega
      have e2 : decide (t ≤ hrD (gD S) (gN vs (i + 1)) - 1) = decide (t < hrD (gD S) (gN vs (i + 1))) := by
        rw [Bool.eq_iff_iff, decide_eq_true_eq, decide_eq_true_eq, Int32.le_iff_toInt_le, Int32.lt_iff_toInt_lt, fb_sub1 (by omega)]
        omega
      rw [e1, e2, Bool.true_and] at q
      unfold pairB at q
      rw [decide_eq_true c2, Bool.true_and] at q
      refine go ok_X2_claims ?_
      refine And.intro t4 ?_
      refine asAnd ?_
      refine And.intro hf.1.1 ?_
      refine asCal ?_
      rw [nI_1]
      refine Cal.z (hf.get c2 ?_)
      refine go ok_X2_claims ?_
      refine And.intro (Or.inr s1) ?_
      refine asAnd ?_
      refine And.intro s1 ?_
      refine asAnd ?_
      rw [s2]
      refine And.intro (fun c3 => ?_) (fun c3 => ?_)
      · rw [decide_eq_false (show ¬ t < hrD (gD S) (gN vs (i + 1)) by simpa using c3), Bool.and_false] at q
        refine go ok_X2_claims ?_
        refine And.intro (Or.inl rfl) ?_
        exact q
      · rw [decide_eq_true (show t < hrD (gD S) (gN vs (i + 1)) by simpa using c3), Bool.and_true] at q
        refine go ok_X2_claims ?_
        refine And.intro s1 ?_
        refine asAnd ?_
        refine And.intro t1 ?_
        refine asAnd ?_
        refine And.intro hc.rt.1 ?_
        refine asAnd ?_
        rw [s2, t2, show hI h 389 (hR h 583 32) = gPt S from hc.rt.2.2.2.2.2.1]
        refine And.intro (fun c4 => ?_) (fun c4 => ?_)
        · rw [decide_eq_false (show ¬ hrD (gD S) (gN vs (i + 1)) - hrD (gD S) (gN vs i) ≤ gPt S by simpa using c4), Bool.and_false] at q
          refine go ok_X2_claims ?_
          refine And.intro (Or.inl rfl) ?_
          exact q
        · rw [decide_eq_true (show hrD (gD S) (gN vs (i + 1)) - hrD (gD S) (gN vs i) ≤ gPt S by simpa using c4), Bool.and_true] at q
          refine go ok_X2_claims ?_
          refine And.intro hc.rt.1 ?_
          refine Cal.z (c_sameForm hc hv l1 l2 v1 v2 ?_)
          refine go ok_X2_claims ?_
          refine And.intro (fun c5 => ?_) (fun c5 => ?_)
          · rw [b2i_eq.mp c5] at q
            refine go ok_X2_claims ?_
            refine And.intro (Or.inl rfl) ?_
            exact q
          · rw [b2i_ne.mp c5] at q
            refine go ok_X2_claims ?_
            refine And.intro (Or.inr rfl) ?_
            exact q
    · unfold pairB at q
      rw [decide_eq_false c2] at q
      refine go ok_X2_claims ?_
      refine And.intro (Or.inl rfl) ?_
      exact q
  · rw [decide_eq_true (show t ≤ hrD (gD S) (gN vs i) by simpa using c), Bool.and_true] at q
    have e1 : decide (hrD (gD S) (gN vs i) + 1 ≤ t) = false := by
      apply decide_eq_false
      rw [Int32.le_iff_toInt_le, fb_add1 (by omega)]
      rw [Int32.lt_iff_toInt_lt] at c
      omega
    rw [e1, Bool.false_and, Bool.and_false, Bool.or_false] at q
    refine go ok_X2_claims ?_
    refine And.intro t1 ?_
    refine Cal.z (c_start hc hv l1 v1 ?_)
    refine go ok_X2_claims ?_
    refine And.intro (fun c2 => ?_) (fun c2 => ?_)
    · rw [decide_eq_false (show ¬ fromD (gD S) (gN vs i) ≤ t by simpa using c2)] at q
      refine go ok_X2_claims ?_
      refine And.intro (Or.inl rfl) ?_
      exact q
    · rw [decide_eq_true (show fromD (gD S) (gN vs i) ≤ t by simpa using c2)] at q
      refine go ok_X2_claims ?_
      refine And.intro (Or.inr rfl) ?_
      exact q
end C2

