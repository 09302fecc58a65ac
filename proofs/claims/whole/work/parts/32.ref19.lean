/-! ===== the reference: clauses of rights ===== -/
def OW (h h' : AH) : Prop := (∀ f a, f < 659 ∨ 669 < f → hI h' f a = hI h f a) ∧ (∀ f a, ¬ f = 668 → hL h' f a = hL h f a) ∧ hR h' = hR h ∧ (∀ a, ¬ (a = 74 ∨ a = 75 ∨ a = 80 ∨ a = 81 ∨ a = 82) → aI h' a = aI h a) ∧ aL h' = aL h ∧ aR h' = aR h ∧ hC h' = hC h ∧ hZ h' = hZ h
theorem OW.rf (h : AH) : OW h h := ⟨fun _ _ _ => rfl, fun _ _ _ => rfl, rfl, fun _ _ => rfl, rfl, rfl, rfl, rfl⟩
theorem OW.tr {h h' h'' : AH} (a : OW h h') (b : OW h' h'') : OW h h'' := ⟨fun f x hf => (b.1 f x hf).trans (a.1 f x hf), fun f x hf => (b.2.1 f x hf).trans (a.2.1 f x hf), b.2.2.1.trans a.2.2.1, fun x hx => (b.2.2.2.1 x hx).trans (a.2.2.2.1 x hx), b.2.2.2.2.1.trans a.2.2.2.2.1, b.2.2.2.2.2.1.trans a.2.2.2.2.2.1, b.2.2.2.2.2.2.1.trans a.2.2.2.2.2.2.1, b.2.2.2.2.2.2.2.trans a.2.2.2.2.2.2.2⟩
theorem OT.ob {h h' : AH} (b : OT h h') : OW h h' := ⟨fun f x hf => b.1 f x (by omega), fun f x _ => by rw [b.2.1], b.2.2.1, fun x _ => by rw [b.2.2.2.1], b.2.2.2.2.1, b.2.2.2.2.2.1, b.2.2.2.2.2.2.1, b.2.2.2.2.2.2.2⟩
theorem OW.s {h h' : AH} {f a : Nat} {v : Int32} (b : OW h h') (hf : 659 ≤ f ∧ f ≤ 669) : OW h (sI h' f a v) := b.tr
  ⟨fun g x hg => by show up2 (hI h') f a v g x = hI h' g x; unfold up2; rw [if_neg (fun z => by omega)], fun _ _ _ => rfl, rfl, fun _ _ => rfl, rfl, rfl, rfl, rfl⟩
theorem OW.sl {h h' : AH} {a : Nat} {v : Int64} (b : OW h h') : OW h (sL h' 668 a v) := b.tr
  ⟨fun _ _ _ => rfl, fun g x hg => by show up2 (hL h') 668 a v g x = hL h' g x; unfold up2; rw [if_neg (fun z => hg z.1)], rfl, fun _ _ => rfl, rfl, rfl, rfl, rfl⟩
theorem OW.t {h h' : AH} {a : Nat} {v : List Int32} (b : OW h h') (ha : a = 74 ∨ a = 75 ∨ a = 80 ∨ a = 81 ∨ a = 82) : OW h (tI h' a v) := b.tr
  ⟨fun _ _ _ => rfl, fun _ _ _ => rfl, rfl, fun x hx => by show up1 (aI h') a v x = aI h' x; exact up1_ne (fun z => hx (z ▸ ha)), rfl, rfl, rfl, rfl⟩
theorem OW.om {h h' : AH} (b : OW h h') : OM h h' := by
  obtain ⟨a1, a2, a3, a4, a5, a6, a7, a8⟩ := b
  exact ⟨fun n => by rw [a7], fun f a hf => ⟨a1 f a (by omega), a2 f a (by omega), by rw [a3]⟩, fun a ha => ⟨a4 a (by omega), by rw [a5]⟩, fun a => by rw [a6], a8⟩
theorem RM.ob {S : SG} {p p' : Int32} {h h' : AH} (hM : RM (sFl S p) h) (b : OW h h') (e : hI h' 661 62 = p') : RM (sFl S p') h' := by
  obtain ⟨a1, a2, a3, a4, a5, a6, a7, a8⟩ := b
  obtain ⟨m1, m2, m3, m4, m5, m6, -, m8, m9⟩ := hM
  unfold M2 M3 M5 M6 M8 M9 at *
  unfold RM M2 M3 M5 M6 M8 M9
  rw [a1 640 62 (by decide), a1 641 62 (by decide), a1 643 62 (by decide), a1 652 62 (by decide), a1 653 62 (by decide), a1 658 62 (by decide), a1 677 62 (by decide), a2 654 62 (by decide), a4 63 (by decide), a4 64 (by decide), a4 65 (by decide), a4 66 (by decide), a4 68 (by decide), a4 70 (by decide), a4 71 (by decide), a4 73 (by decide), a4 76 (by decide), a4 77 (by decide), a4 78 (by decide), a4 79 (by decide), a4 83 (by decide), a5]
  exact ⟨m1, m2, m3, m4, m5, m6, e, m8, m9⟩
/-- the rights being read stand in the reference's cells -/
def NRH (R : NR) (h : AH) : Prop := aI h 74 = R.1.1 ∧ aI h 75 = R.1.2.1 ∧ hI h 666 62 = R.1.2.2.1 ∧ hI h 667 62 = R.1.2.2.2.1 ∧ hL h 668 62 = R.1.2.2.2.2 ∧ ∀ k, k < 15 → bt (hI h 669 62) k = R.2 k
theorem NRH.ot {R : NR} {h h' : AH} (hN : NRH R h) (b : OT h h') : NRH R h' := by
  unfold NRH at *
  rw [b.2.2.2.1, b.2.1, b.1 666 62 (by decide), b.1 667 62 (by decide), b.1 669 62 (by decide)]
  exact hN
section R19
variable {l : Launch} {w : WD} {d : Nat} {h h0 : AH} {Q : Option AV → AH → Prop} {S : SG} {pos : Nat} {R : NR}
theorem okT.ob {h' : AH} {pos' : Nat} (ht : okT S h0 pos h) (b : OW h h') (e1 : hI h' 659 62 = nI pos') (e2 : hI h' 660 62 = hI h 660 62) (e3 : hI h' 661 62 = hI h 661 62) (hl : pos' ≤ (gTx S).length) : okT S h0 pos' h' :=
  ⟨ht.1.ob b (e3.trans ht.1.fl), ht.2.1.tr b.om, e1, e2.trans ht.2.2.2.1, hl⟩
theorem okT.fb {h' : AH} {k p : Int32} (ht : okT S h0 pos h) (b : OW h h') (e2 : hI h' 660 62 = k) (e3 : hI h' 661 62 = p) (hk : 0 < k) : ftT S h0 k p h' :=
  ⟨ht.1.ob b e3, ht.2.1.tr b.om, e2, hk⟩
theorem ftT.ob {h' : AH} {k p : Int32} (ht : ftT S h0 k p h) (b : OW h h') (e2 : hI h' 660 62 = hI h 660 62) (e3 : hI h' 661 62 = hI h 661 62) : ftT S h0 k p h' :=
  ⟨ht.1.ob b (e3.trans ht.1.fl), ht.2.1.tr b.om, e2.trans ht.2.2.1, ht.2.2.2⟩
theorem ftT.gt {k p : Int32} (ht : ftT S h0 k p h) : 0 < hI h 660 62 := by rw [ht.2.2.1]; exact ht.2.2.2
theorem ftT.ne {k p : Int32} (ht : ftT S h0 k p h) : ¬ hI h 660 62 = 0 := fun z => by have := ht.gt; rw [z] at this; exact absurd this (by decide)
theorem td_on {h : AH} {R : NR} {k : Nat} (hk : k < 15) (hN : ∀ k, k < 15 → bt (hI h 669 62) k = R.2 k) : ∀ j, j < 15 → bt (hI h 669 62 ||| ((1 : Int32) <<< (nI k &&& 31))) j = tdOn R.2 k j := by
  intro j hj
  rw [b_put (by omega) (by omega), hN j hj]
  unfold tdOn
  by_cases c : j = k
  · rw [if_pos c, decide_eq_true c, Bool.or_true]
  · rw [if_neg c, decide_eq_false c, Bool.or_false]
theorem r_once {k : Nat} {at_ : Int32} (hk : k < 15) (hf : hI h 660 62 = 0) (hN : bt (hI h 669 62) k = R.2 k) (q1 : R.2 k = false → Q (some (vi 1)) (sI h 669 62 (hI h 669 62 ||| ((1 : Int32) <<< (nI k &&& 31))))) (q2 : R.2 k = true → Q (some (vi 0)) (sI (sI (sI h 660 62 3) 661 62 at_) 669 62 (hI h 669 62 ||| ((1 : Int32) <<< (nI k &&& 31))))) : Con l w true (d + 1) HX9_once [vr 62, vi (nI k), vi at_] h 0 0 Q := by
  refine Con.of ok_X9_once (nones := [none]) rfl (by simp) ?_
  refine go ok_X9_once ?_
  refine asAnd ?_
  rw [b_get (by omega), hN]
  refine And.intro (fun c => ?_) (fun c => ?_)
  · have c : R.2 k = true := by cases e : R.2 k with
      | true => rfl
      | false => exact absurd e c
    refine go ok_X9_once ?_
    refine Cal.z (r_want0 hf (by decide) ?_)
    refine go ok_X9_once ?_
    refine And.intro (Or.inl rfl) ?_
    exact q2 c
  · refine go ok_X9_once ?_
    refine Cal.z (r_want1 hf ?_)
    refine go ok_X9_once ?_
    refine And.intro (Or.inr rfl) ?_
    exact q1 c
theorem r_readNever (ht : okT S h0 pos h) (hN : NRH R h) (q1 : ∀ h' k p, pNever (gTx S) R pos = .inl (k, p) → ftT S h0 k p h' → Q none h') (q2 : ∀ h' j R', pNever (gTx S) R pos = .inr (j, R') → okT S h0 j h' → NRH R' h' → Q none h') : Con l w true (d + 2) HX9_readNever [vr 62] h 0 0 Q := by
  unfold pNever pBd at q1 q2
  refine Con.of ok_X9_readNever (nones := [none]) rfl (by simp) ?_
  refine go ok_X9_readNever ?_
  refine Cal.z (r_takeNumber ht (fun h' k p v e hft ho => ?_) (fun h' j v e ht' ho hbg => ?_))
  · rw [e] at q1
    refine go ok_X9_readNever ?_
    refine And.intro (fun c => ?_) (fun c => absurd c hft.ne)
    refine go ok_X9_readNever ?_
    exact q1 _ _ _ rfl hft
  · rw [e] at q1 q2
    dsimp only at q1 q2
    obtain ⟨g1, g2, g3, g4⟩ := pNum_ok e ht.2.2.2.2
    obtain ⟨dd, hdd, rfl⟩ := natOf (n := 5) (by decide) g1 g2
    have ec : (nI dd).toNatClampNeg = dd := nI_clamp (by omega)
    rw [ec] at q1 q2
    have hN' := hN.ot ho
    refine go ok_X9_readNever ?_
    refine asAnd ?_
    rw [ht'.2.2.2.1]
    refine And.intro (fun c => absurd c (by decide)) (fun c => ?_)
    refine go ok_X9_readNever ?_
    refine Cal.z (r_once (R := R) (by omega) ht'.2.2.2.1 (hN'.2.2.2.2.2 dd (by omega)) (fun e2 => ?_) (fun e2 => ?_))
    · rw [if_neg (by rw [e2]; decide)] at q2
      refine Ex.lay (fun hy => ?_)
      refine go ok_X9_readNever ?_
      refine And.intro (fun c2 => absurd c2 (by decide)) (fun c2 => ?_)
      refine go ok_X9_readNever ?_
      refine And.intro (jx74 hy (k := dd) rfl (by omega)) (And.intro (Or.inr rfl) ?_)
      rw [ec]
      refine q2 _ _ _ rfl (ht'.ob (((OW.rf h').s (by decide)).t (by decide)) ht'.2.2.1 rfl rfl g4) ?_
      refine ⟨?_, hN'.2.1, hN'.2.2.1, hN'.2.2.2.1, hN'.2.2.2.2.1, td_on (by omega) hN'.2.2.2.2.2⟩
      show (aI h' 74).set dd 1 = R.1.1.set dd 1
      rw [hN'.1]
    · rw [if_pos e2] at q1
      refine go ok_X9_readNever ?_
      refine And.intro (fun c2 => ?_) (fun c2 => absurd c2 (by decide))
      refine go ok_X9_readNever ?_
      refine q1 _ _ _ rfl (ht'.fb ((((OW.rf h').s (by decide)).s (by decide)).s (by decide)) rfl ?_ (by decide))
      exact hbg
theorem r_readLet (ht : okT S h0 pos h) (hN : NRH R h) (q1 : ∀ h' k p, pLet (gTx S) R pos = .inl (k, p) → ftT S h0 k p h' → Q none h') (q2 : ∀ h' j R', pLet (gTx S) R pos = .inr (j, R') → okT S h0 j h' → NRH R' h' → Q none h') : Con l w true (d + 2) HX9_readLet [vr 62] h 0 0 Q := by
  unfold pLet pBd at q1 q2
  refine Con.of ok_X9_readLet (nones := [none, none]) rfl (by simp) ?_
  refine go ok_X9_readLet ?_
  refine Cal.z (r_takeNumber ht (fun h' k p v e hft ho => ?_) (fun h' j v e ht' ho hbg => ?_))
  · rw [e] at q1
    refine go ok_X9_readLet ?_
    refine And.intro (fun c => ?_) (fun c => absurd c hft.ne)
    refine go ok_X9_readLet ?_
    exact q1 _ _ _ rfl hft
  · rw [e] at q1 q2
    dsimp only at q1 q2
    obtain ⟨g1, g2, g3, g4⟩ := pNum_ok e ht.2.2.2.2
    obtain ⟨dd, hdd, rfl⟩ := natOf (n := 5) (by decide) g1 g2
    have ec : (nI dd).toNatClampNeg = dd := nI_clamp (by omega)
    rw [ec] at q1 q2
    have hN' := hN.ot ho
    refine go ok_X9_readLet ?_
    refine asAnd ?_
    rw [ht'.2.2.2.1]
    refine And.intro (fun c => absurd c (by decide)) (fun c => ?_)
    refine go ok_X9_readLet ?_
    refine asCal ?_
    rw [show (6 : Int32) + nI dd = nI (6 + dd) from nI_add 6 dd]
    refine Cal.z (r_once (R := R) (by omega) ht'.2.2.2.1 (hN'.2.2.2.2.2 (6 + dd) (by omega)) (fun e2 => ?_) (fun e2 => ?_))
    · rw [if_neg (by rw [e2]; decide)] at q1 q2
      have ht2 : okT S h0 j (sI h' 669 62 (hI h' 669 62 ||| ((1 : Int32) <<< (nI (6 + dd) &&& 31)))) := ht'.ob ((OW.rf h').s (by decide)) ht'.2.2.1 rfl rfl g4
      have hN2 : NRH (R.1, tdOn R.2 (6 + dd)) (sI h' 669 62 (hI h' 669 62 ||| ((1 : Int32) <<< (nI (6 + dd) &&& 31)))) := ⟨hN'.1, hN'.2.1, hN'.2.2.1, hN'.2.2.2.1, hN'.2.2.2.2.1, td_on (by omega) hN'.2.2.2.2.2⟩
      generalize sI h' 669 62 (hI h' 669 62 ||| ((1 : Int32) <<< (nI (6 + dd) &&& 31))) = h2 at ht2 hN2
      refine go ok_X9_readLet ?_
      refine And.intro (fun c2 => absurd c2 (by decide)) (fun c2 => ?_)
      refine go ok_X9_readLet ?_
      refine Cal.z (r_takeWord ht2 (fun h3 ht3 ho3 b3 l3 => ?_))
      have hN3 := hN2.ot ho3
      have hle := skp_le g4
      refine go ok_X9_readLet ?_
      refine Cal.z (r_isWordA (n := 4) (ws := wEach) ht3.m6 b3 l3 hle (by decide) rfl ?_)
      unfold pWord at q1 q2
      by_cases cw : wAt (gTx S) (skp (gTx S) j) wEach = true
      · rw [if_pos cw] at q1 q2
        dsimp only at q1 q2
        rw [cw]
        refine go ok_X9_readLet ?_
        refine Cal.z (r_want1 ht3.2.2.2.1 ?_)
        refine go ok_X9_readLet ?_
        refine Cal.z (r_takeNumber ht3 (fun h4 k p v e4 hft ho4 => ?_) (fun h4 j4 v e4 ht4 ho4 hbg4 => ?_))
        · rw [e4] at q1
          refine Ex.lay (fun hy => ?_)
          refine go ok_X9_readLet ?_
          refine And.intro (jx75 hy (k := dd) rfl (by omega)) ?_
          exact q1 _ _ _ rfl (hft.ob ((OW.rf h4).t (by decide)) rfl rfl)
        · rw [e4] at q2
          have hN4 := hN3.ot ho4
          obtain ⟨-, -, -, f4⟩ := pNum_ok e4 ht3.2.2.2.2
          refine Ex.lay (fun hy => ?_)
          refine go ok_X9_readLet ?_
          refine And.intro (jx75 hy (k := dd) rfl (by omega)) ?_
          rw [ec]
          refine q2 _ _ _ rfl (ht4.ob ((OW.rf h4).t (by decide)) ht4.2.2.1 rfl rfl f4) ?_
          refine ⟨hN4.1, ?_, hN4.2.2⟩
          show (aI h4 75).set dd v = R.1.2.1.set dd v
          rw [hN4.2.1]
      · rw [if_neg cw] at q1
        have cw' : wAt (gTx S) (skp (gTx S) j) wEach = false := by simpa using cw
        rw [cw']
        refine go ok_X9_readLet ?_
        refine Cal.z (r_want0 ht3.2.2.2.1 (by decide) ?_)
        have hf4 : ftT S h0 1 (nI (skp (gTx S) j)) (sI (sI h3 660 62 1) 661 62 (hI h3 662 62)) := ht3.fb (((OW.rf h3).s (by decide)).s (by decide)) rfl b3 (by decide)
        generalize sI (sI h3 660 62 1) 661 62 (hI h3 662 62) = h4 at hf4
        refine go ok_X9_readLet ?_
        refine Cal.z (r_takeNumberF hf4.gt ?_)
        refine Ex.lay (fun hy => ?_)
        refine go ok_X9_readLet ?_
        refine And.intro (jx75 hy (k := dd) rfl (by omega)) ?_
        exact q1 _ _ _ rfl (hf4.ob ((OW.rf h4).t (by decide)) rfl rfl)
    · rw [if_pos e2] at q1
      refine go ok_X9_readLet ?_
      refine And.intro (fun c2 => ?_) (fun c2 => absurd c2 (by decide))
      refine go ok_X9_readLet ?_
      refine q1 _ _ _ rfl (ht'.fb ((((OW.rf h').s (by decide)).s (by decide)).s (by decide)) rfl ?_ (by decide))
      exact hbg
end R19

