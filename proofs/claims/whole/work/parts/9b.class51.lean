/-! ===== the class: look ===== -/
section C51
variable {l : Launch} {w : WD} {d : Nat} {h h' h1 h2 A : AH} {Q : Option AV → AH → Prop} {S S' : SG} {G G' : GH} {b a : Nat} {L : List Nat}
/-- a look's fields when it is made, and when it is told -/
def lk1 (h : AH) (a : Nat) (n : Int32) (p : Nat) (hr : Int32) : AH := sI (sR (sI (sI (sL (sI (sI h 131 a 2) 132 a (-1)) 133 a 0) 134 a 0) 128 a n) 129 a p) 130 a hr
def lk2 (h : AH) (a : Nat) (k : Int32) (st : Int64) (dt : Int32) : AH := sI (sL (sI h 131 a k) 133 a st) 132 a dt
theorem i_look (h3 : hC h a = 3) (ha : ¬ a = 0) {n hr : Int32} {p : Nat} (q : Q none (lk1 h a n p hr)) : Con l w true (d + 1) HX1_init [vr a, vi n, vr p, vi hr] h 0 0 Q := by
  refine Con.of ok_X1_init (nones := []) rfl (by simp) ?_
  refine go ok_X1_init ?_
  refine And.intro ha ?_
  refine And.intro h3 ?_
  refine And.intro h3 ?_
  refine And.intro h3 ?_
  refine And.intro h3 ?_
  refine And.intro (Or.inl rfl) ?_
  refine And.intro h3 ?_
  refine And.intro h3 ?_
  refine And.intro h3 ?_
  exact q
theorem c_tell (h3 : hC h a = 3) {k dt : Int32} {st : Int64} (q : Q none (lk2 h a k st dt)) : Con l w true d HX1_tell [vr a, vi k, vl st, vi dt] h 0 0 Q := by
  refine Con.of ok_X1_tell (nones := []) rfl (by simp) ?_
  refine go ok_X1_tell ?_
  refine And.intro h3 ?_
  refine And.intro h3 ?_
  refine And.intro h3 ?_
  exact q
theorem lk2_ok {n p : Nat} {hr k dt : Int32} {st : Int64} (h3 : hC h a = 3) (h88 : 88 ≤ a) : NLk (lk2 (lk1 h a (nI n) p hr) a k st dt) a n p (0, hr, k, st, dt) ∧ ∀ m, ¬ m = a → SM h (lk2 (lk1 h a (nI n) p hr) a k st dt) m := by
  refine ⟨⟨⟨h3, h88⟩, ?_, ?_, ?_, ?_, ?_, ?_, ?_⟩, fun m hm => ?_⟩
  · unfold lk2 lk1
    rw [hI_sI, if_neg (by omega), hI_sL, hI_sI, if_neg (by omega), hI_sI, if_neg (by omega), hI_sR, hI_sI, if_pos ⟨rfl, rfl⟩]
  · unfold lk2 lk1
    rw [hR_sI, hR_sL, hR_sI, hR_sI, hR_sR, if_pos ⟨rfl, rfl⟩]
  · unfold lk2 lk1
    rw [hI_sI, if_neg (by omega), hI_sL, hI_sI, if_neg (by omega), hI_sI, if_pos ⟨rfl, rfl⟩]
  · unfold lk2 lk1
    rw [hI_sI, if_neg (by omega), hI_sL, hI_sI, if_pos ⟨rfl, rfl⟩]
  · unfold lk2 lk1
    rw [hI_sI, if_pos ⟨rfl, rfl⟩]
  · unfold lk2 lk1
    rw [hL_sI, hL_sL, if_pos ⟨rfl, rfl⟩]
  · unfold lk2 lk1
    rw [hI_sI, if_neg (by omega), hI_sL, hI_sI, if_neg (by omega), hI_sI, if_neg (by omega), hI_sR, hI_sI, if_neg (by omega), hI_sI, if_pos ⟨rfl, rfl⟩]
  · exact ((((((((((SM.rf h m).s hm).s hm).sl hm).s hm).s hm).sr hm).s hm).s hm).sl hm).s hm
theorem c_look (hc : RC S G h) (hv : Inv S) (h100 : (gD S).length ≤ 100) {x k dt : Int32} {st : Int64} (qq : ∀ G' h', RC (lookF S x k st dt).2 G' h' → OX h h' → Q (some (vi (lookF S x k st dt).1)) h') : Con l w true (d + 8) HX8_look [vr 32, vi x, vi k, vl st, vi dt] h 3 307 Q := by
  refine Con.of ok_X8_look (nones := [none, none, none]) rfl (by simp) ?_
  refine Ex.lay (fun hy => ?_)
  refine Ex.old (fun ho hz32 => ?_)
  have hz := hy.1
  have ell := hc.lks.1
  refine go ok_X8_look ?_
  refine Cal.z (k_pageAt hc (fun e => ?_) (fun p hp ex e h0 => ?_))
  · rw [lookF, e] at qq
    refine go ok_X8_look ?_
    refine And.intro (fun c => absurd c (by decide)) (fun c => ?_)
    refine go ok_X8_look ?_
    exact qq G h hc (OX.rf h)
  · rw [lookF, e] at qq
    dsimp only at qq
    obtain ⟨dk, hdk, ed⟩ := hv.door hp
    have pgs := hc.pgs.2.2 p hp
    have p4 := pgs.1.1
    have ec : ((gDs S).getD p 0).toNatClampNeg = dk := by rw [ed]; exact nI_clamp (by omega)
    rw [ec] at qq
    have k25 : ¬ (0 ≤ k ∧ k ≤ 2) → ∀ l6 l7 l8, Ex l w true mX8_look (d + 8) Q 25 [some (vr 32), some (vi x), some (vi k), some (vl st), none, some (vi dt), l6, l7, l8] [] h 3 307 := by
      intro z l6 l7 l8
      rw [if_neg (fun y => z y.1)] at qq
      refine go ok_X8_look ?_
      exact qq G h hc (OX.rf h)
    have k70 : ¬ lookOK (gNw S) k st dt → ∀ l6 l7 l8, Ex l w true mX8_look (d + 8) Q 70 [some (vr 32), some (vi x), some (vi k), some (vl st), none, some (vi dt), l6, l7, l8] [] h 3 307 := by
      intro z l6 l7 l8
      rw [if_neg z] at qq
      refine go ok_X8_look ?_
      exact qq G h hc (OX.rf h)
    -- all is well told
    have k74 : lookOK (gNw S) k st dt → Ex l w true mX8_look (d + 8) Q 74 [some (vr 32), some (vi x), some (vi k), some (vl st), none, some (vi dt), some (vr (gN (gPa G) p)), some (vi (b2i (decide (k = 0)))), none] [] h 3 307 := by
      intro z
      rw [if_pos z] at qq
      have e193 : hI h 193 (gN (gPa G) p) = nI dk := by rw [pgs.2.2.1]; exact ed
      have al : (!decide (ltA (gRt S) dk = 0) && decide (ltA (gRt S) dk ≤ gNw S - (aI h 35).getD dk 0)) = letR S dk (gD S).length := by
        rw [letR_eq hv hdk _ (Nat.le_refl _), hc.kn dk hdk]
        have hlt := (hv.2.2.2.2.2.1).2.2.1 dk hdk
        unfold ltA
        by_cases c : (gRt S).1.getD dk 0 = 0
        · rw [if_pos c, show decide ((gNv S).getD dk 0 = 0) = true from decide_eq_true c, decide_eq_false (fun y => by have w1 := hlt.2.1; rw [y] at w1; exact absurd w1 (by decide))]
          rfl
        · rw [if_neg c, show decide ((gNv S).getD dk 0 = 0) = false from decide_eq_false c]
          rfl
      rw [← al] at qq
      refine go ok_X8_look ?_
      refine And.intro p4 ?_
      refine And.intro p4 ?_
      refine And.intro (ix35 hy (k := dk) e193 (by omega)) ?_
      refine And.intro hc.rt.1 ?_
      refine asCal ?_
      rw [e193, hc.now, nI_clamp (show dk < 2 ^ 31 by omega)]
      refine Cal.z (c_allow hc.rt hdk ?_)
      generalize (!decide (ltA (gRt S) dk = 0) && decide (ltA (gRt S) dk ≤ gNw S - (aI h 35).getD dk 0)) = bb at *
      clear al
      cases bb with
      | false =>
        rw [if_neg (by decide)] at qq
        refine go ok_X8_look ?_
        refine And.intro (fun c => absurd c (by decide)) (fun c => ?_)
        refine go ok_X8_look ?_
        exact qq G h hc (OX.rf h)
      | true =>
        rw [if_pos rfl] at qq
        refine go ok_X8_look ?_
        refine And.intro (fun c => ?_) (fun c => absurd c (by decide))
        refine go ok_X8_look ?_
        refine And.intro hc.lk.1 ?_
        refine Cal.z (j_size hc.lk ?_)
        rw [ell]
        refine go ok_X8_look ?_
        refine asAnd ?_
        rw [show (100 : Int32) = nI 100 from rfl, nI_ltI (by omega) (by omega)]
        refine And.intro (fun c4 => ?_) (fun c4 => ?_)
        · rw [if_neg (by omega)] at qq
          have c5 := c4
          refine go ok_X8_look ?_
          refine ⟨2, 300, rfl, rfl, ?_⟩
          have fA := nW_f h 3
          have smA : ∀ m, m < hZ h → SM h (nW h 3) m := fun m hm => fA.1 m (by omega)
          have alA := hc.lk.sm ho smA
          generalize nW h 3 = A at *
          have a3 := fA.2.1
          have zA := fA.2.2.2
          have nA : hI A 586 32 = gNw S := by rw [(smA 32 (by omega)).2.1]; exact hc.now
          refine And.intro alA.1 ?_
          refine Cal.z (j_size alA ?_)
          rw [ell]
          refine go ok_X8_look ?_
          refine And.intro a3 ?_
          refine asCal ?_
          rw [nA]
          have hza : ¬ hZ h = 0 := by omega
          generalize eza : hZ h = z0 at a3 hza ⊢
          refine Cal.z (i_look a3 hza ?_)
          have ok := lk2_ok (h := A) (a := z0) (n := (gD S).length) (p := gN (gPa G) p) (hr := gNw S) (k := k) (st := if k = 0 then st else 0) (dt := if k = 0 then dt else -1) a3 (by omega)
          have smB : ∀ m, m < hZ h → SM h (lk2 (lk1 A z0 (nI (gD S).length) (gN (gPa G) p) (gNw S)) z0 k (if k = 0 then st else 0) (if k = 0 then dt else -1)) m := fun m hm => (smA m hm).tr (ok.2 m (by omega))
          have hcB := hc.ext hy ho smB
          have oxB : OX h (lk2 (lk1 A z0 (nI (gD S).length) (gN (gPa G) p) (gNw S)) z0 k (if k = 0 then st else 0) (if k = 0 then dt else -1)) := ⟨fun f hf => ⟨(smB 62 (by omega)).2.1 f, (smB 62 (by omega)).2.2.1 f⟩, fun y h1 h2 => ⟨(smB y (by omega)).2.2.2.2.1, (smB y (by omega)).2.2.2.2.2.1⟩⟩
          have b3 : hC (lk1 A z0 (nI (gD S).length) (gN (gPa G) p) (gNw S)) z0 = 3 := a3
          have okN := ok.1
          generalize lk1 A z0 (nI (gD S).length) (gN (gPa G) p) (gNw S) = B at *
          have hk3 : ¬ k = 3 := fun y => by have := z.1.2; rw [y] at this; exact absurd this (by decide)
          have nl : NLk (lk2 B z0 k (if k = 0 then st else 0) (if k = 0 then dt else -1)) z0 (gD S).length (gN (gPa G) p) (newLk S p k st dt) := okN
          -- told and kept
          have fin : Cal l w true (d + 7) HX1_tell [vr z0, vi k, vl (if k = 0 then st else 0), vi (if k = 0 then dt else -1)] B 2 300 (fun v h c s => Ex l w true mX8_look (d + 8) Q 177 [some (vr 32), some (vi x), some (vi k), some (vl st), none, some (vi dt), some (vr (gN (gPa G) p)), some (vi (b2i (decide (k = 0)))), some (vr z0)] (v.toList ++ []) h c s) := by
            refine Cal.z (c_tell b3 ?_)
            generalize lk2 B z0 k (if k = 0 then st else 0) (if k = 0 then dt else -1) = C at *
            refine go ok_X8_look ?_
            refine Cal.k 2 300 (c2 := 0) (s2 := 0) rfl rfl (c_keep hcB hv hp hdk ed (x := newLk S p k st dt) rfl rfl hk3 nl (by omega) (fun G' h' r1 r2 r3 r4 => ?_))
            refine go ok_X8_look ?_
            refine And.intro r3 ?_
            exact Qv (qq G' h' r1 (oxB.tr r2)) r4.symm
          by_cases ck : k = 0
          · rw [if_pos ck, if_pos ck] at fin
            rw [decide_eq_true ck]
            rw [decide_eq_true ck] at fin
            refine go ok_X8_look ?_
            refine And.intro (fun c => absurd c (by decide)) (fun c => ?_)
            refine go ok_X8_look ?_
            refine And.intro (fun c2 => absurd c2 (by decide)) (fun c2 => ?_)
            refine go ok_X8_look ?_
            refine And.intro b3 ?_
            exact fin
          · rw [if_neg ck, if_neg ck] at fin
            rw [decide_eq_false ck]
            rw [decide_eq_false ck] at fin
            refine go ok_X8_look ?_
            refine And.intro (fun c => ?_) (fun c => absurd c (by decide))
            refine go ok_X8_look ?_
            refine And.intro (fun c2 => ?_) (fun c2 => absurd c2 (by decide))
            refine go ok_X8_look ?_
            refine And.intro b3 ?_
            exact fin
        · rw [if_pos (by omega)] at qq
          refine go ok_X8_look ?_
          exact qq G h hc (OX.rf h)
    have k38 : (0 ≤ k ∧ k ≤ 2) → Ex l w true mX8_look (d + 8) Q 38 [some (vr 32), some (vi x), some (vi k), some (vl st), none, some (vi dt), some (vr (gN (gPa G) p)), none, none] [vi (b2i (decide (k = 0)))] h 3 307 := by
      intro z
      by_cases ck : k = 0
      · rw [decide_eq_true ck] at k74
        rw [decide_eq_true ck]
        refine go ok_X8_look ?_
        refine And.intro (fun c => absurd c (by decide)) (fun c => ?_)
        refine go ok_X8_look ?_
        refine asAnd ?_
        rw [lg_cmp_eq, pc_mask]
        refine And.intro (fun c2 => ?_) (fun c2 => ?_)
        · exact k70 (fun y => c2 ⟨(y.2 ck).1, (y.2 ck).2.1⟩) _ _ _
        · refine go ok_X8_look ?_
          refine And.intro (fun c3 => ?_) (fun c3 => ?_)
          · exact k70 (fun y => absurd (y.2 ck).2.2.1 (by simpa using c3)) _ _ _
          · refine go ok_X8_look ?_
            refine asAnd ?_
            rw [hc.now]
            refine And.intro (fun c4 => ?_) (fun c4 => ?_)
            · exact k74 ⟨z, fun _ => ⟨c2.1, c2.2, by simpa using c3, c4⟩⟩
            · exact k70 (fun y => c4 (y.2 ck).2.2.2) _ _ _
      · rw [decide_eq_false ck] at k74
        rw [decide_eq_false ck]
        refine go ok_X8_look ?_
        refine And.intro (fun c => ?_) (fun c => absurd c (by decide))
        exact k74 ⟨z, fun y => absurd y ck⟩
    refine go ok_X8_look ?_
    refine And.intro (fun c => ?_) (fun c => absurd c h0)
    refine go ok_X8_look ?_
    refine And.intro (fun c => ?_) (fun c => ?_)
    · exact k25 (fun z => absurd z.1 (by simpa using c)) _ _ _
    · refine go ok_X8_look ?_
      refine And.intro (fun c2 => ?_) (fun c2 => ?_)
      · have hk : 0 ≤ k ∧ k ≤ 2 := ⟨by simpa using c, c2⟩
        have k38 := k38 hk
        refine go ok_X8_look ?_
        refine And.intro (fun c3 => ?_) (fun c3 => ?_)
        · rw [decide_eq_false c3] at k38
          refine go ok_X8_look ?_
          exact k38
        · rw [decide_eq_true c3] at k38
          refine go ok_X8_look ?_
          exact k38
      · exact k25 (fun z => c2 z.2) _ _ _
end C51

