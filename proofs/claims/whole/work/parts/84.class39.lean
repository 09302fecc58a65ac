/-! ===== the class: program ===== -/
section C39
variable {l : Launch} {w : WD} {d : Nat} {h h0 H : AH} {Q : Option AV → AH → Prop} {tx : List Int32} {i j q m p : Nat} {k : Int32} {cs : List CLS} {S : SG} {G : GH}
theorem RC.flt (hc : RC S G h) (v : Int32) : RC (sTx (sFl S v) []) G (sI (sI h 587 32 v) 449 36 0) :=
  hc.cg rfl (fun k x hk => by rw [hI_sI, if_neg (fun z => by omega), hI_sI, if_neg (fun z => by omega)]) (fun _ _ _ _ => rfl) (fun _ => rfl) rfl (fun _ _ => rfl) rfl rfl rfl rfl hc.now rfl ⟨hc.rt.cg rfl (fun f hf => by rw [hI_sI, if_neg (fun z => by omega), hI_sI, if_neg (fun z => by omega)]) rfl rfl, hc.rt2⟩ hc.kn ⟨rfl, Nat.zero_le _, fun i hi => absurd hi (Nat.not_lt_zero _)⟩ hc.hs
theorem RC.th (hc : RC S G h) {p : Int32} : RC S G (tH h i k p) := ((hc.si (Or.inl (by decide))).si (Or.inl (by decide))).si (Or.inl (by decide))
theorem RC.ow (hc : RC S G h) : OWc S G h := hc.2.2.2.2.2.2.2.2.2.2.2.2.2
theorem RC.pms (hc : RC S G h) : PMs (hR h 585 32) h := hc.2.2.2.2.2.2.2.2.2.2.2.2.1
theorem RC.pd (hc : RC S G h) (hq : isPm S G h q) : PD q h := by
  have o := hc.ow.2.2.2 q hq
  refine ⟨fun i j hi hj e => ?_, fun j hj => (o j hj).2⟩
  have a := (o i hi).1
  have b := (o j hj).1
  rw [e, b] at a
  omega
theorem RC.pa_inj (hc : RC S G h) {a b : Nat} (ha : a < (gDs S).length) (hb : b < (gDs S).length) (e : gN (gPa G) a = gN (gPa G) b) : a = b := by
  have h12 := hc.pgs.2.1
  have x := (hc.pn ha).2.1
  have y := (hc.pn hb).2.1
  rw [e, y] at x
  exact ((nI_eq (by omega) (by omega)).1 x).symm
/-- rows of two programs are apart -/
theorem RC.prow (hc : RC S G h) {q1 q2 : Nat} (h1 : isPm S G h q1) (h2 : isPm S G h q2) (hne : ¬ q1 = q2) {i j : Nat} (hi : i < 3) (hj : j < 3) : ¬ hR h (320 + i) q1 = hR h (320 + j) q2 := fun e => by
  have a := (hc.ow.2.2.2 q1 h1 i hi).1
  have b := (hc.ow.2.2.2 q2 h2 j hj).1
  rw [e, b] at a
  omega
theorem RC.pmc (hc : RC S G h) (h1 : isPm S G h q) (h2 : isPm S G h m) (hne : ¬ m = q) {h' : AH} (b : PB q h h') {cs : List CLS} (hp : PMc cs m h) : PMc cs m h' :=
  hp.cg b.1.1 ⟨b.2.1 _ _ (fun z => hne z.1), b.2.1 _ _ (fun z => hne z.1)⟩ (fun j _ => by rw [b.1.2.1]) (fun j hj => b.2.2.1 _ (fun i hi => hc.prow h2 h1 hne hj hi))
/-- a program that was read is the page's -/
theorem RC.prog (hc : RC S G h) (hv : (gPr S).length = 12) (hp : p < (gDs S).length) {h' : AH} (b : PB (hR h 585 32) h h') (hm : PMc cs (hR h 585 32) h') : ∃ G', RC (sPr S ((gPr S).set p cs)) G' (sR (sR h' 195 (gN (gPa G) p) (hR h 585 32)) 585 32 (hR h 195 (gN (gPa G) p))) := by
  have i0 : isPm S G h (hR h 585 32) := Or.inl rfl
  have ip : ∀ p, p < (gDs S).length → isPm S G h (hR h 195 (gN (gPa G) p)) := fun p hp => Or.inr ⟨p, hp, rfl⟩
  have hd := hc.pd i0
  have h12 := hc.pgs.2.1
  have p88 := (hc.pgs.2.2 p hp).1.2
  have inj := fun a ha e => hc.pa_inj (a := a) (b := p) ha hp e
  have ow := hc.ow
  have pm := hc.pmc i0 (m := hR h 195 (gN (gPa G) p)) (ip p hp)
  generalize eq0 : hR h 585 32 = q0 at *
  generalize eqp : hR h 195 (gN (gPa G) p) = qp at *
  have o0 : G.2.2.2.2.1 q0 = 100 := by rw [← eq0]; exact ow.2.2.1.1
  have o1 := ow.2.2.1.2
  have n0 : ∀ p, p < (gDs S).length → ¬ hR h 195 (gN (gPa G) p) = q0 := fun p hp e => by
    have := o1 p hp
    rw [e, o0] at this
    omega
  have np : ∀ a, a < (gDs S).length → ¬ a = p → ¬ hR h 195 (gN (gPa G) a) = qp := fun a ha hne e => by
    have x := o1 a ha
    have y := o1 p hp
    rw [e] at x
    rw [eqp] at y
    omega
  have n0p : ¬ qp = q0 := by rw [← eqp]; exact n0 p hp
  have pmA : ∀ a, a < (gDs S).length → PMc (prD (gPr S) a) (hR h 195 (gN (gPa G) a)) h' := fun a ha => hc.pmc i0 (ip a ha) (n0 a ha) b (hc.pm ha)
  obtain ⟨a1, a2, a3, a4, a5, a6, a7, a8, a9, a10, a11, a12, a13, a14⟩ := hc
  have hR' : ∀ f x, ¬ f = 195 → ¬ f = 585 → hR (sR (sR h' 195 (gN (gPa G) p) q0) 585 32 qp) f x = hR h f x := fun f x h1 h2 => by
    rw [hR_sR, if_neg (fun z => h2 z.1), hR_sR, if_neg (fun z => h1 z.1), b.1.2.1]
  have r195 : ∀ a, a < (gDs S).length → hR (sR (sR h' 195 (gN (gPa G) p) q0) 585 32 qp) 195 (gN (gPa G) a) = if a = p then q0 else hR h 195 (gN (gPa G) a) := fun a ha => by
    rw [hR_sR, if_neg (fun z => by omega), hR_sR]
    by_cases c : a = p
    · rw [if_pos c, if_pos ⟨rfl, by rw [c]⟩]
    · rw [if_neg c, if_neg (fun z => c (inj a ha z.2)), b.1.2.1]
  have r585 : hR (sR (sR h' 195 (gN (gPa G) p) q0) 585 32 qp) 585 32 = qp := by rw [hR_sR, if_pos ⟨rfl, rfl⟩]
  have ai : ∀ x, x < 59 → aI h' x = aI h x := fun x hx => b.2.2.1 x (fun j hj => by have := hd.2 j hj; omega)
  have tr : ∀ {cs : List CLS} {q : Nat}, PMc cs q h' → PMc cs q (sR (sR h' 195 (gN (gPa G) p) q0) 585 32 qp) := fun hp => hp.cg rfl ⟨rfl, rfl⟩ (fun j hj => by rw [hR' _ _ (by omega) (by omega), b.1.2.1]) (fun _ _ => rfl)
  refine ⟨(G.1, G.2.1, G.2.2.1, G.2.2.2.1, fun q => if q = q0 then p else if q = qp then 100 else G.2.2.2.2.1 q, G.2.2.2.2.2), ?_⟩
  have ipm : ∀ q, isPm (sPr S ((gPr S).set p cs)) (G.1, G.2.1, G.2.2.1, G.2.2.2.1, fun q => if q = q0 then p else if q = qp then 100 else G.2.2.2.2.1 q, G.2.2.2.2.2) (sR (sR h' 195 (gN (gPa G) p) q0) 585 32 qp) q → isPm S G h q := by
    intro q hq
    rcases hq with z | ⟨a, ha, z⟩
    · rw [z, r585, ← eqp]; exact ip p hp
    · replace z : q = hR (sR (sR h' 195 (gN (gPa G) p) q0) 585 32 qp) 195 (gN (gPa G) a) := z
      rw [r195 a ha] at z
      by_cases c : a = p
      · rw [z, if_pos c]; exact i0
      · rw [z, if_neg c]; exact ip a ha
  generalize eH : sR (sR h' 195 (gN (gPa G) p) q0) 585 32 qp = X at *
  have xC : hC X = hC h := by rw [← eH]; exact b.1.1
  have xI : ∀ f x, ¬ (x = q0 ∧ (f = 323 ∨ f = 324)) → hI X f x = hI h f x := by rw [← eH]; exact b.2.1
  have xL : hL X = hL h := by rw [← eH]; exact b.1.2.2.1
  have xa : aI X = aI h' := by rw [← eH]; rfl
  have xaL : aL X = aL h := by rw [← eH]; exact b.1.2.2.2.1
  have xaR : aR X = aR h := by rw [← eH]; exact b.1.2.2.2.2.1
  refine ⟨a1.cg (fun x _ => by rw [xC]) (fun x _ => xI _ _ (by omega)) (fun x _ => hR' _ _ (by omega) (by omega)) (fun x _ => by rw [xaR]) (fun x hx => by rw [xa, ai x (by omega)]), by rw [xI _ _ (by omega)]; exact a2, by rw [xI _ _ (by omega)]; exact a3, a4.cg xC (xI _ _ (by omega)) (hR' _ _ (by omega) (by omega)) xaR, a5.cg xC (xI _ _ (by omega)) (hR' _ _ (by omega) (by omega)) xaR, a6.cg xC (fun k x hk => xI _ _ (by omega)) (fun x => hR' _ _ (by omega) (by omega)) (fun x => by rw [xL]), ⟨a7.1, a7.2.1, fun a ha => ?_⟩, ⟨?_, ?_⟩, ?_, ?_, by rw [xaL]; exact a11, a12.cg xC (xI _ _ (by omega)) (hR' _ _ (by omega) (by omega)) xaR, ?_, ?_⟩
  · replace ha : a < (gDs S).length := ha
    obtain ⟨b1, b2, b3, b4, b5⟩ := a7.2.2 a ha
    refine ⟨by rw [xC]; exact b1, by rw [xI _ _ (by omega)]; exact b2, by rw [xI _ _ (by omega)]; exact b3, ?_, ?_⟩
    · rw [hR' 194 _ (by omega) (by omega)]
      exact b4.cg xC (xI _ _ (by omega)) (hR' _ _ (by omega) (by omega)) xaR
    · show PMc (((gPr S).set p cs).getD a []) (hR X 195 (gN (gPa G) a)) X
      rw [r195 a ha, getD_set]
      by_cases c : a = p
      · rw [if_pos c, if_pos ⟨c, by omega⟩]; exact tr hm
      · rw [if_neg c, if_neg (fun z => c z.1)]
        exact tr (pmA a ha)
  · rw [hR' 583 _ (by omega) (by omega)]
    exact a8.1.cg (by rw [xC]) (fun f hf => xI _ _ (by omega)) (by rw [xL]) (by rw [xa, ai _ (by have := a8.1.2.1; omega)])
  · rw [hR' 583 _ (by omega) (by omega), hR' 584 _ (by omega) (by omega)]; exact a8.2
  · rw [xa, ai _ (by decide)]; exact a9
  · exact ⟨by rw [xI _ _ (by omega)]; exact a10.1, a10.2.1, by rw [xa, ai _ (by decide)]; exact a10.2.2⟩
  · rw [r585]
    have z := (tr (pmA p hp)).1
    rw [eqp] at z
    exact z
  · refine ⟨fun a ha => ?_, fun y hy => ?_, ⟨?_, fun a ha => ?_⟩, fun q hq j hj => ?_⟩
    · rw [hR' 194 _ (by omega) (by omega)]; exact ow.1 a ha
    · rw [hR' 1 _ (by omega) (by omega)]
      refine ow.2.1 y ?_
      rcases hy with z | z | z | ⟨a, ha, z⟩
      · exact Or.inl z
      · exact Or.inr (Or.inl z)
      · exact Or.inr (Or.inr (Or.inl z))
      · exact Or.inr (Or.inr (Or.inr ⟨a, ha, by rw [z, hR' 194 _ (by omega) (by omega)]; rfl⟩))
    · rw [r585]
      show (if qp = q0 then p else if qp = qp then 100 else _) = 100
      rw [if_neg n0p, if_pos rfl]
    · replace ha : a < (gDs S).length := ha
      show (if hR X 195 (gN (gPa G) a) = q0 then p else if hR X 195 (gN (gPa G) a) = qp then 100 else G.2.2.2.2.1 (hR X 195 (gN (gPa G) a))) = a
      rw [r195 a ha]
      by_cases c : a = p
      · rw [if_pos c, if_pos rfl, c]
      · rw [if_neg c, if_neg (n0 a ha), if_neg (np a ha c)]; exact o1 a ha
    · rw [hR' _ _ (by omega) (by omega)]
      exact ow.2.2.2 q (ipm q hq) j hj
theorem RC.pb (hc : RC S G h) {h' : AH} (b : PB (hR h 585 32) h h') : RC S G h' := by
  have i0 : isPm S G h (hR h 585 32) := Or.inl rfl
  have h12 := hc.pgs.2.1
  have hd := hc.pd i0
  have n0 : ∀ p, p < (gDs S).length → ¬ hR h 195 (gN (gPa G) p) = hR h 585 32 := fun p hp e => by
    have := hc.ow.2.2.1.2 p hp
    rw [e, hc.ow.2.2.1.1] at this
    omega
  have pmA : ∀ a, a < (gDs S).length → PMc (prD (gPr S) a) (hR h 195 (gN (gPa G) a)) h' := fun a ha => hc.pmc i0 (Or.inr ⟨a, ha, rfl⟩) (n0 a ha) b (hc.pm ha)
  have ai : ∀ x, x < 59 → aI h' x = aI h x := fun x hx => b.2.2.1 x (fun j hj => by have := hd.2 j hj; omega)
  obtain ⟨a1, a2, a3, a4, a5, a6, a7, a8, a9, a10, a11, a12, a13, a14⟩ := hc
  obtain ⟨⟨xC, xR, xL, xaL, xaR, xZ⟩, xI, xa, xn⟩ := b
  refine ⟨a1.cg (fun x _ => by rw [xC]) (fun x _ => xI _ _ (by omega)) (fun x _ => by rw [xR]) (fun x _ => by rw [xaR]) (fun x hx => ai x (by omega)), by rw [xI _ _ (by omega)]; exact a2, by rw [xI _ _ (by omega)]; exact a3, a4.cg xC (xI _ _ (by omega)) (by rw [xR]) xaR, a5.cg xC (xI _ _ (by omega)) (by rw [xR]) xaR, a6.cg xC (fun k x hk => xI _ _ (by omega)) (fun x => by rw [xR]) (fun x => by rw [xL]), ⟨a7.1, a7.2.1, fun a ha => ?_⟩, ⟨?_, ?_⟩, ?_, ?_, by rw [xaL]; exact a11, a12.cg xC (xI _ _ (by omega)) (by rw [xR]) xaR, ?_, ?_⟩
  · obtain ⟨b1, b2, b3, b4, b5⟩ := a7.2.2 a ha
    refine ⟨by rw [xC]; exact b1, by rw [xI _ _ (by omega)]; exact b2, by rw [xI _ _ (by omega)]; exact b3, ?_, ?_⟩
    · rw [xR]
      exact b4.cg xC (xI _ _ (by omega)) (by rw [xR]) xaR
    · rw [xR]; exact pmA a ha
  · rw [xR]
    exact a8.1.cg (by rw [xC]) (fun f hf => xI _ _ (by omega)) (by rw [xL]) (ai _ (by have := a8.1.2.1; omega))
  · rw [xR]; exact a8.2
  · rw [ai _ (by decide)]; exact a9
  · exact ⟨by rw [xI _ _ (by omega)]; exact a10.1, a10.2.1, by rw [ai _ (by decide)]; exact a10.2.2⟩
  · rw [xR]; exact a13.cg xC (fun j _ => by rw [xR]) (fun j _ => xn _)
  · exact a14.cg rfl (fun f x _ _ => by rw [xR])
theorem c_program (hc : RC S G h) (hv : (gPr S).length = 12) {x : Int32} (qq : ∀ G' h', RC (programF S x).2 G' h' → OX h h' → Q (some (vi (programF S x).1)) h') : Con l w true (d + 10) HX8_program [vr 32, vi x] h 0 0 Q := by
  have h200 := hc.tx.2.1
  refine Con.of ok_X8_program (nones := [none, none, none]) rfl (by simp) ?_
  refine go ok_X8_program ?_
  refine Cal.z (k_pageAt hc (fun e => ?_) (fun p hp ex e h0 => ?_))
  · rw [programF, e] at qq
    refine go ok_X8_program ?_
    refine And.intro (fun c => absurd c (by decide)) (fun c => ?_)
    refine go ok_X8_program ?_
    exact qq G h hc (OX.rf h)
  · rw [programF, e] at qq
    dsimp only at qq
    refine go ok_X8_program ?_
    refine And.intro (fun c => ?_) (fun c => absurd c h0)
    refine go ok_X8_program ?_
    refine asAnd ?_
    rw [hc.tx.1]
    refine And.intro (fun c2 => ?_) (fun c2 => ?_)
    · rw [if_pos c2] at qq
      have hd := hc.pd (q := hR h 585 32) (Or.inl rfl)
      have hms := hc.pms
      have y4 := (hc.pn hp).1
      refine go ok_X8_program ?_
      refine Cal.z (c_openT ?_)
      refine go ok_X8_program ?_
      refine And.intro hms.1 ?_
      refine Cal.z (c_readFromP hc.1 hc.tx hd hms (fun h' i0 cs j e2 b hm hl => ?_) (fun h' e2 pl i2 v e3 he b hl => ?_))
      · replace b : PB (hR h 585 32) h h' := b
        rw [e2] at qq
        obtain ⟨G', hG⟩ := hc.prog hv hp b hm
        have r195 : hR h' 195 (gN (gPa G) p) = hR h 195 (gN (gPa G) p) := by rw [b.1.2.1]
        have r585 : hR h' 585 32 = hR h 585 32 := by rw [b.1.2.1]
        have y4' : hC h' (gN (gPa G) p) = 4 := by rw [b.1.1]; exact y4
        have qq := qq G' _ ((hG.th (i := j) (k := 0) (p := -1)).flt (-1)) ?_
        · rw [← r195, ← r585] at qq
          refine go ok_X8_program ?_
          refine And.intro (fun c => absurd rfl c) (fun c => ?_)
          refine go ok_X8_program ?_
          refine And.intro y4' ?_
          refine And.intro y4' ?_
          refine go ok_X8_program ?_
          refine Cal.z (c_closeText ?_)
          refine go ok_X8_program ?_
          exact qq
        · refine ⟨fun f hf => ⟨?_, by show hL h' f 62 = _; rw [b.1.2.2.1]⟩, fun x h1 h2 => ⟨?_, by show aL h' x = _; rw [b.1.2.2.2.1]⟩⟩
          · rw [hI_sI, if_neg (fun z => by omega), hI_sI, if_neg (fun z => by omega), hI_tH (by omega), hI_sR, hI_sR]; exact b.2.1 f 62 (by omega)
          · show aI h' x = _; exact b.2.2.1 x (fun j hj => by have := hd.2 j hj; omega)
      · replace b : PB (hR h 585 32) h h' := b
        rw [e3] at qq
        have qq := qq G (sI (sI (tH h' i2 e2 pl) 587 32 pl) 449 36 0) ?_ ?_
        · refine go ok_X8_program ?_
          refine And.intro (fun c => ?_) (fun c => absurd c he)
          refine go ok_X8_program ?_
          refine Cal.z (c_closeText ?_)
          rw [show hI (tH h' i2 e2 pl) 451 36 = e2 from rfl, if_neg he]
          refine go ok_X8_program ?_
          exact qq
        · exact ((hc.pb b).th (i := i2) (k := e2) (p := pl)).flt pl
        · refine ⟨fun f hf => ⟨?_, by show hL h' f 62 = _; rw [b.1.2.2.1]⟩, fun x h1 h2 => ⟨?_, by show aL h' x = _; rw [b.1.2.2.2.1]⟩⟩
          · rw [hI_sI, if_neg (fun z => by omega), hI_sI, if_neg (fun z => by omega), hI_tH (by omega)]; exact b.2.1 f 62 (by omega)
          · show aI h' x = _; exact b.2.2.1 x (fun j hj => by have := hd.2 j hj; omega)
    · rw [if_neg c2] at qq
      refine go ok_X8_program ?_
      exact qq G h hc (OX.rf h)
end C39

