/-! ===== the class: page ===== -/
section C46
variable {l : Launch} {w : WD} {d : Nat} {h h' h1 h2 : AH} {Q : Option AV → AH → Prop} {S S' : SG} {G G' : GH} {b a : Nat} {L : List Nat}
theorem c_page (hc : RC S G h) (hv : Inv S) (hv2 : ∀ p, (gDs S).length ≤ p → prD (gPr S) p = []) {x : Int32} (qq : ∀ G' h', RC (pageF S x).2 G' h' → OX h h' → Q (some (vi (pageF S x).1)) h') : Con l w true (d + 8) HX8_page [vr 32, vi x] h 7 186 Q := by
  have h12 := hc.pgs.2.1
  have epl := hc.pgs.1
  refine Con.of ok_X8_page (nones := []) rfl (by simp) ?_
  refine Ex.lay (fun hy => ?_)
  refine Ex.old (fun ho hz => ?_)
  have k10 : ¬ (0 ≤ x ∧ x ≤ 5) → Ex l w true mX8_page (d + 8) Q 10 [some (vr 32), some (vi x)] [] h 7 186 := by
    intro c
    rw [pageF, if_neg c] at qq
    refine go ok_X8_page ?_
    exact qq G h hc (OX.rf h)
  refine go ok_X8_page ?_
  refine And.intro (fun c => ?_) (fun c => ?_)
  · exact k10 (fun z => absurd z.1 (by simpa using c))
  · refine go ok_X8_page ?_
    refine And.intro (fun c2 => ?_) (fun c2 => ?_)
    · have c3 : 0 ≤ x ∧ x ≤ 5 := ⟨by simpa using c, by rw [Int32.lt_iff_toInt_lt] at c2; rw [Int32.le_iff_toInt_le]; have : (6 : Int32).toInt = 6 := rfl; have : (5 : Int32).toInt = 5 := rfl; omega⟩
      rw [pageF, if_pos c3] at qq
      refine go ok_X8_page ?_
      refine And.intro hc.pg.1 ?_
      refine Cal.z (j_size hc.pg ?_)
      rw [epl]
      refine go ok_X8_page ?_
      refine asAnd ?_
      rw [show (12 : Int32) = nI 12 from rfl, nI_ltI (by omega) (by omega)]
      refine And.intro (fun c4 => ?_) (fun c4 => ?_)
      · rw [if_neg (by omega)] at qq
        refine go ok_X8_page ?_
        refine ⟨6, 182, rfl, rfl, ?_⟩
        have fA := nW_f h 4
        have hz1 := hy.1
        have smA : ∀ m, m < hZ h → SM h (nW h 4) m := fun m hm => fA.1 m (by omega)
        have alA := hc.pg.sm ho smA
        have lyA : Lay (nW h 4) := hy.sm (by rw [fA.2.2.2]; omega) (fun m hm => smA m (by omega))
        generalize nW h 4 = A at *
        have a4 := fA.2.1
        have zA := fA.2.2.2
        refine And.intro alA.1 ?_
        refine Cal.z (j_size alA ?_)
        rw [epl]
        refine go ok_X8_page ?_
        refine And.intro a4 ?_
        refine Cal.k 5 32 (c2 := 1) (s2 := 150) rfl rfl (i_page a4 hz1 (by omega) lyA (fun h1 np ly1 => ?_))
        refine Ex.old (fun ho1 _ => ?_)
        have sm1 : ∀ m, m < hZ A → ¬ m = hZ h → SM A h1 m := np.1
        have al1 : AL h1 33 (gPa G) := hc.pg.sm ho (fun m hm => (smA m hm).tr (sm1 m (by omega) (by omega)))
        refine go ok_X8_page ?_
        refine And.intro al1.1 ?_
        refine Cal.k 1 150 (c2 := 0) (s2 := 0) rfl rfl (j_add al1 (by omega) (Or.inr ⟨by omega, Or.inr np.2.1.1⟩) (fun h2 hA af hz2 => ?_))
        obtain ⟨r1, r2⟩ := hc.pgn hv (hv2 _ (Nat.le_refl _)) c4 hy ho fA np ho1 hA af
        refine go ok_X8_page ?_
        refine And.intro hA.1 ?_
        refine Cal.z (j_size hA ?_)
        rw [show (gPa G ++ [hZ h]).length = (gDs S).length + 1 by rw [List.length_append, epl]; rfl]
        refine go ok_X8_page ?_
        exact Qv (qq _ h2 r1 r2) (by show nI (gDs S).length = nI ((gDs S).length + 1) - 1; rw [nI_prd (by omega)]; rfl)
      · rw [if_pos (by omega)] at qq
        refine go ok_X8_page ?_
        exact qq G h hc (OX.rf h)
    · exact k10 (fun z => by have := z.2; rw [Int32.le_iff_toInt_le] at this; rw [Int32.lt_iff_toInt_lt] at c2; have : (6 : Int32).toInt = 6 := rfl; have : (5 : Int32).toInt = 5 := rfl; omega)
end C46

