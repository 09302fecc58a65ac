/-! ===== the class's cells tell the state ===== -/
def kdC (D : List LK) (l : Nat) : Int32 := if kdD D l = 3 then -1 else kdD D l
def dtC (D : List LK) (l : Nat) : Int32 := if kdD D l = 3 then -1 else dtD D l
def LKc (D : List LK) (pa la : List Nat) (h : AH) : Prop := la.length = D.length ∧ ∀ l, l < D.length → (hC h (gN la l) = 3 ∧ 88 ≤ gN la l) ∧ hI h 128 (gN la l) = nI l ∧ hR h 129 (gN la l) = gN pa (pgD D l) ∧ hI h 130 (gN la l) = hrD D l ∧ hI h 131 (gN la l) = kdC D l ∧ hI h 132 (gN la l) = dtC D l ∧ hL h 133 (gN la l) = stD D l ∧ hI h 134 (gN la l) = b2i (decide (kdD D l = 3))
def PMs (q : Nat) (h : AH) : Prop := hC h q = 6 ∧ (hC h (hR h 320 q) = 101 ∧ (aI h (hR h 320 q)).length = 8) ∧ (hC h (hR h 321 q) = 101 ∧ (aI h (hR h 321 q)).length = 8) ∧ (hC h (hR h 322 q) = 101 ∧ (aI h (hR h 322 q)).length = 8)
def PMc (cs : List CLS) (q : Nat) (h : AH) : Prop := PMs q h ∧ hI h 323 q = nI cs.length ∧ cs.length ≤ 8 ∧ hI h 324 q = b2i (trapR cs cs.length) ∧ ∀ k, k < cs.length → (aI h (hR h 320 q)).getD k 0 = (gC cs k).1 ∧ (aI h (hR h 321 q)).getD k 0 = (gC cs k).2.1 ∧ (aI h (hR h 322 q)).getD k 0 = (gC cs k).2.2
def vwA (la : List Nat) (vs : List Nat) : List Nat := vs.map (gN la)
def PGc (S : SG) (pa la : List Nat) (h : AH) : Prop := pa.length = (gDs S).length ∧ (gDs S).length ≤ 12 ∧ ∀ p, p < (gDs S).length → (hC h (gN pa p) = 4 ∧ 88 ≤ gN pa p) ∧ hI h 192 (gN pa p) = nI p ∧ hI h 193 (gN pa p) = (gDs S).getD p 0 ∧ AL h (hR h 194 (gN pa p)) (vwA la (vws (gD S) p)) ∧ PMc (prD (gPr S) p) (hR h 195 (gN pa p)) h
def RTc (r : RT) (a : Nat) (h : AH) : Prop := hC h a = 7 ∧ (a = 54 ∨ a = 56) ∧ aI h (a + 1) = r.2.1 ∧ (∀ k, k < 6 → bt (hI h 385 a) k = !decide (r.1.getD k 0 = 0)) ∧ hI h 388 a = r.2.2.1 ∧ hI h 389 a = r.2.2.2.1 ∧ hL h 390 a = r.2.2.2.2
/-- the last knock at a door -/
def klR (ds : List Int32) (D : List LK) (k : Nat) : Nat → Int32
  | 0 => -1000
  | i + 1 => if ds.getD (pgD D i) 0 = nI k then hrD D i else klR ds D k i
def TXc (tx : List Int32) (h : AH) : Prop := hI h 449 36 = nI tx.length ∧ tx.length ≤ 200 ∧ ∀ i, i < tx.length → (aI h 37).getD i 0 = tx.getD i 0
/-- addresses: pages, looks; owners of views' lists, of rows, of programs, of programs' rows -/
abbrev GH : Type := List Nat × List Nat × (Nat → Nat) × (Nat → Nat) × (Nat → Nat) × (Nat → Nat)
def gPa (G : GH) : List Nat := G.1
def gLa (G : GH) : List Nat := G.2.1
def isLs (S : SG) (G : GH) (h : AH) (b : Nat) : Prop := b = 33 ∨ b = 34 ∨ b = 39 ∨ ∃ p, p < (gDs S).length ∧ b = hR h 194 (gN (gPa G) p)
def isPm (S : SG) (G : GH) (h : AH) (q : Nat) : Prop := q = hR h 585 32 ∨ ∃ p, p < (gDs S).length ∧ q = hR h 195 (gN (gPa G) p)
def OWc (S : SG) (G : GH) (h : AH) : Prop := (∀ p, p < (gDs S).length → G.2.2.1 (hR h 194 (gN (gPa G) p)) = p ∧ 88 ≤ hR h 194 (gN (gPa G) p)) ∧ (∀ b, isLs S G h b → hR h 1 b = 1 ∨ G.2.2.2.1 (hR h 1 b) = b) ∧
  (G.2.2.2.2.1 (hR h 585 32) = 100 ∧ ∀ p, p < (gDs S).length → G.2.2.2.2.1 (hR h 195 (gN (gPa G) p)) = p) ∧ (∀ q, isPm S G h q → ∀ j, j < 3 → G.2.2.2.2.2 (hR h (320 + j) q) = 4 * q + j ∧ ((59 ≤ hR h (320 + j) q ∧ hR h (320 + j) q ≤ 61) ∨ 88 ≤ hR h (320 + j) q))
def RC (S : SG) (G : GH) (h : AH) : Prop :=
  STH h ∧ hI h 586 32 = gNw S ∧ hI h 587 32 = gFl S ∧ AL h 33 (gPa G) ∧ AL h 34 (gLa G) ∧ LKc (gD S) (gPa G) (gLa G) h ∧ PGc S (gPa G) (gLa G) h ∧
  (RTc (gRt S) (hR h 583 32) h ∧ ((hR h 583 32 = 54 ∧ hR h 584 32 = 56) ∨ (hR h 583 32 = 56 ∧ hR h 584 32 = 54))) ∧ (∀ k, k < 6 → (aI h 35).getD k 0 = klR (gDs S) (gD S) k (gD S).length) ∧ TXc (gTx S) h ∧ aL h 53 = gHs S ∧ AL h 39 (vwA (gLa G) (gWh S)) ∧ PMs (hR h 585 32) h ∧ OWc S G h
section C1
variable {l : Launch} {w : WD} {d : Nat} {h : AH} {Q : Option AV → AH → Prop} {S : SG} {G : GH}
theorem RC.now (hc : RC S G h) : hI h 586 32 = gNw S := hc.2.1
theorem RC.pg (hc : RC S G h) : AL h 33 (gPa G) := hc.2.2.2.1
theorem RC.lk (hc : RC S G h) : AL h 34 (gLa G) := hc.2.2.2.2.1
theorem RC.lks (hc : RC S G h) : LKc (gD S) (gPa G) (gLa G) h := hc.2.2.2.2.2.1
theorem RC.pgs (hc : RC S G h) : PGc S (gPa G) (gLa G) h := hc.2.2.2.2.2.2.1
theorem RC.rt (hc : RC S G h) : RTc (gRt S) (hR h 583 32) h := hc.2.2.2.2.2.2.2.1.1
theorem RC.kn (hc : RC S G h) : ∀ k, k < 6 → (aI h 35).getD k 0 = klR (gDs S) (gD S) k (gD S).length := hc.2.2.2.2.2.2.2.2.1
theorem RC.tx (hc : RC S G h) : TXc (gTx S) h := hc.2.2.2.2.2.2.2.2.2.1
theorem RC.hs (hc : RC S G h) : aL h 53 = gHs S := hc.2.2.2.2.2.2.2.2.2.2.1
theorem RC.wh (hc : RC S G h) : AL h 39 (vwA (gLa G) (gWh S)) := hc.2.2.2.2.2.2.2.2.2.2.2.1
theorem AL.len {b : Nat} {L : List Nat} (hA : AL h b L) : L.length ≤ 150 := Nat.le_trans hA.2.2.2.1 hA.2.2.2.2.1
theorem vwA_len (la vs : List Nat) : (vwA la vs).length = vs.length := List.length_map ..
theorem gN_vwA {la vs : List Nat} {i : Nat} (hi : i < vs.length) : gN (vwA la vs) i = gN la (gN vs i) := by
  unfold vwA
  show ((vs.map (gN la)).getD i 0) = gN la (gN vs i)
  rw [List.getD_eq_getElem?_getD, List.getElem?_map, List.getElem?_eq_getElem hi]
  show gN la vs[i] = gN la (gN vs i)
  congr 1
  unfold gN
  rw [List.getD_eq_getElem?_getD, List.getElem?_eq_getElem hi]
  rfl
theorem c_pageAt {pa : List Nat} (hA : AL h 33 pa) {x : Int32} (q1 : ixO pa.length x = none → Q (some (vr 0)) h) (q2 : ∀ k, k < pa.length → x = nI k → ixO pa.length x = some k → Q (some (vr (gN pa k))) h) (ht : ∀ k, k < pa.length → hC h (gN pa k) = 4) : Con l w true (d + 3) HX8_pageAt [vr 32, vi x] h 0 0 Q := by
  have h150 := hA.len
  refine Con.of ok_X8_pageAt (nones := []) rfl (by simp) ?_
  have k17 : ixO pa.length x = none → Ex l w true mX8_pageAt (d + 3) Q 17 [some (vr 32), some (vi x)] [] h 0 0 := by
    intro e
    refine go ok_X8_pageAt ?_
    exact q1 e
  refine go ok_X8_pageAt ?_
  refine And.intro (fun c => ?_) (fun c => ?_)
  · exact k17 (by unfold ixO; rw [if_pos c])
  · obtain ⟨k, hk, rfl⟩ := nI_of c
    refine go ok_X8_pageAt ?_
    refine And.intro hA.1 ?_
    refine Cal.z (j_size hA ?_)
    refine go ok_X8_pageAt ?_
    refine asAnd ?_
    rw [nI_ltI hk (by omega)]
    refine And.intro (fun c2 => ?_) (fun c2 => ?_)
    · refine go ok_X8_pageAt ?_
      refine And.intro hA.1 ?_
      refine Cal.z (j_get hA c2 ?_)
      refine go ok_X8_pageAt ?_
      refine And.intro (Or.inr (ht k c2)) ?_
      exact q2 k c2 rfl (ixO_nI c2 (by omega))
    · exact k17 (ixO_out (fun ⟨j, hj, e⟩ => by rw [nI_eq hk (by omega)] at e; omega))
theorem c_lookAt {la : List Nat} (hA : AL h 34 la) {x : Int32} (q1 : ixO la.length x = none → Q (some (vr 0)) h) (q2 : ∀ k, k < la.length → x = nI k → ixO la.length x = some k → Q (some (vr (gN la k))) h) (ht : ∀ k, k < la.length → hC h (gN la k) = 3) : Con l w true (d + 3) HX8_lookAt [vr 32, vi x] h 0 0 Q := by
  have h150 := hA.len
  refine Con.of ok_X8_lookAt (nones := []) rfl (by simp) ?_
  have k17 : ixO la.length x = none → Ex l w true mX8_lookAt (d + 3) Q 17 [some (vr 32), some (vi x)] [] h 0 0 := by
    intro e
    refine go ok_X8_lookAt ?_
    exact q1 e
  refine go ok_X8_lookAt ?_
  refine And.intro (fun c => ?_) (fun c => ?_)
  · exact k17 (by unfold ixO; rw [if_pos c])
  · obtain ⟨k, hk, rfl⟩ := nI_of c
    refine go ok_X8_lookAt ?_
    refine And.intro hA.1 ?_
    refine Cal.z (j_size hA ?_)
    refine go ok_X8_lookAt ?_
    refine asAnd ?_
    rw [nI_ltI hk (by omega)]
    refine And.intro (fun c2 => ?_) (fun c2 => ?_)
    · refine go ok_X8_lookAt ?_
      refine And.intro hA.1 ?_
      refine Cal.z (j_get hA c2 ?_)
      refine go ok_X8_lookAt ?_
      refine And.intro (Or.inr (ht k c2)) ?_
      exact q2 k c2 rfl (ixO_nI c2 (by omega))
    · exact k17 (ixO_out (fun ⟨j, hj, e⟩ => by rw [nI_eq hk (by omega)] at e; omega))
/-- a page by its number: its cell -/
theorem k_pageAt (hc : RC S G h) {x : Int32} (q1 : ixO (gDs S).length x = none → Q (some (vr 0)) h) (q2 : ∀ k, k < (gDs S).length → x = nI k → ixO (gDs S).length x = some k → ¬ gN (gPa G) k = 0 → Q (some (vr (gN (gPa G) k))) h) : Con l w true (d + 3) HX8_pageAt [vr 32, vi x] h 0 0 Q := by
  have hp := hc.pgs
  refine c_pageAt hc.pg (fun e => q1 (by rw [← hp.1]; exact e)) (fun k hk ek e => ?_) (fun k hk => (hp.2.2 k (by rw [← hp.1]; exact hk)).1.1)
  rw [hp.1] at hk e
  exact q2 k hk ek e (by have := (hp.2.2 k hk).1.2; omega)
theorem k_lookAt (hc : RC S G h) {x : Int32} (q1 : ixO (gD S).length x = none → Q (some (vr 0)) h) (q2 : ∀ k, k < (gD S).length → x = nI k → ixO (gD S).length x = some k → ¬ gN (gLa G) k = 0 → Q (some (vr (gN (gLa G) k))) h) : Con l w true (d + 3) HX8_lookAt [vr 32, vi x] h 0 0 Q := by
  have hp := hc.lks
  refine c_lookAt hc.lk (fun e => q1 (by rw [← hp.1]; exact e)) (fun k hk ek e => ?_) (fun k hk => (hp.2 k (by rw [← hp.1]; exact hk)).1.1)
  rw [hp.1] at hk e
  exact q2 k hk ek e (by have := (hp.2 k hk).1.2; omega)
theorem kdC_v {D : List LK} {k : Nat} (hk : k < D.length) : isV D k = (decide (kdC D k = 0) || decide (kdC D k = 1)) := by
  unfold isV kdC
  rw [decide_eq_true hk, Bool.true_and]
  split
  · rename_i c; rw [c]; rfl
  · rfl
theorem c_isView {D : List LK} {a k : Nat} (ht : hC h a = 3) (hk : k < D.length) (e : hI h 131 a = kdC D k) (q : Q (some (vi (b2i (isV D k)))) h) : Con l w true d HX1_isView [vr a] h 0 0 Q := by
  rw [kdC_v hk] at q
  refine Con.of ok_X1_isView (nones := []) rfl (by simp) ?_
  refine go ok_X1_isView ?_
  refine And.intro ht ?_
  refine asAnd ?_
  rw [e]
  refine And.intro (fun c => ?_) (fun c => ?_)
  · refine go ok_X1_isView ?_
    refine And.intro (Or.inr rfl) ?_
    rw [decide_eq_true c] at q
    exact q
  · refine go ok_X1_isView ?_
    refine And.intro ht ?_
    refine asAnd ?_
    rw [e]
    refine And.intro (fun c2 => ?_) (fun c2 => ?_)
    · rw [decide_eq_false c, decide_eq_false c2] at q
      refine go ok_X1_isView ?_
      refine And.intro (Or.inl rfl) ?_
      exact q
    · rw [decide_eq_true c2, Bool.or_true] at q
      refine go ok_X1_isView ?_
      refine And.intro (Or.inr rfl) ?_
      exact q
theorem kdC_0 {D : List LK} {k : Nat} : kdC D k = 0 ↔ kdD D k = 0 := by
  unfold kdC
  split
  · rename_i c; rw [c]; decide
  · exact Iff.rfl
theorem kdC_1 {D : List LK} {k : Nat} : kdC D k = 1 ↔ kdD D k = 1 := by
  unfold kdC
  split
  · rename_i c; rw [c]; decide
  · exact Iff.rfl
theorem c_isSeen {D : List LK} {a k : Nat} (ht : hC h a = 3) (e : hI h 131 a = kdC D k) (q : Q (some (vi (b2i (decide (kdD D k = 0))))) h) : Con l w true d HX1_isSeen [vr a] h 0 0 Q := by
  refine Con.of ok_X1_isSeen (nones := []) rfl (by simp) ?_
  refine go ok_X1_isSeen ?_
  refine And.intro ht ?_
  refine asAnd ?_
  rw [e, kdC_0]
  refine And.intro (fun c => ?_) (fun c => ?_)
  · rw [decide_eq_false c] at q
    refine go ok_X1_isSeen ?_
    refine And.intro (Or.inl rfl) ?_
    exact q
  · rw [decide_eq_true c] at q
    refine go ok_X1_isSeen ?_
    refine And.intro (Or.inr rfl) ?_
    exact q
theorem k_viewAt (hc : RC S G h) {x : Int32} (q1 : vwO (gD S) x = none → Q (some (vr 0)) h) (q2 : ∀ k, k < (gD S).length → x = nI k → isV (gD S) k = true → vwO (gD S) x = some k → ¬ gN (gLa G) k = 0 → Q (some (vr (gN (gLa G) k))) h) : Con l w true (d + 4) HX8_viewAt [vr 32, vi x] h 0 0 Q := by
  refine Con.of ok_X8_viewAt (nones := [none]) rfl (by simp) ?_
  refine go ok_X8_viewAt ?_
  refine Cal.z (k_lookAt hc (fun e => ?_) (fun k hk ek e hn => ?_))
  · refine go ok_X8_viewAt ?_
    refine And.intro (fun c => ?_) (fun c => absurd c (by decide))
    refine go ok_X8_viewAt ?_
    exact q1 (by unfold vwO; rw [e])
  · subst ek
    obtain ⟨⟨t1, t2⟩, -, -, -, t3, -⟩ := hc.lks.2 k hk
    refine go ok_X8_viewAt ?_
    refine And.intro (fun c => absurd c hn) (fun c => ?_)
    refine go ok_X8_viewAt ?_
    refine And.intro t1 ?_
    refine Cal.z (c_isView t1 hk t3 ?_)
    cases hv : isV (gD S) k with
    | true =>
      refine go ok_X8_viewAt ?_
      refine And.intro (fun c2 => ?_) (fun c2 => absurd c2 (by decide))
      refine go ok_X8_viewAt ?_
      exact q2 k hk rfl hv (by unfold vwO; rw [e]; simp only [hv, if_true]) hn
    | false =>
      refine go ok_X8_viewAt ?_
      refine And.intro (fun c2 => absurd c2 (by decide)) (fun c2 => ?_)
      refine go ok_X8_viewAt ?_
      exact q1 (by unfold vwO; rw [e]; simp only [hv]; rfl)
theorem k_isHour (hn : hI h 586 32 = gNw S) {x : Int32} (q1 : 0 ≤ x ∧ x ≤ gNw S → Q (some (vi 1)) h) (q2 : ¬ (0 ≤ x ∧ x ≤ gNw S) → Q (some (vi 0)) h) : Con l w true d HX8_isHour [vr 32, vi x] h 0 0 Q := by
  refine Con.of ok_X8_isHour (nones := []) rfl (by simp) ?_
  refine go ok_X8_isHour ?_
  refine And.intro (fun c => ?_) (fun c => ?_)
  · refine go ok_X8_isHour ?_
    refine And.intro (Or.inl rfl) ?_
    exact q2 (fun z => absurd z.1 (by simpa using c))
  · refine go ok_X8_isHour ?_
    refine asAnd ?_
    rw [hn]
    refine And.intro (fun c2 => ?_) (fun c2 => ?_)
    · refine go ok_X8_isHour ?_
      refine And.intro (Or.inl rfl) ?_
      exact q2 (fun z => absurd z.2 (by simpa using c2))
    · refine go ok_X8_isHour ?_
      refine And.intro (Or.inr rfl) ?_
      exact q1 ⟨by simpa using c, by simpa using c2⟩
theorem k_isSpan (hn : hI h 586 32 = gNw S) {a b : Int32} (q1 : (0 ≤ a ∧ a ≤ gNw S) ∧ (a ≤ b ∧ b ≤ gNw S) → Q (some (vi 1)) h) (q2 : ¬ ((0 ≤ a ∧ a ≤ gNw S) ∧ (a ≤ b ∧ b ≤ gNw S)) → Q (some (vi 0)) h) : Con l w true (d + 1) HX8_isSpan [vr 32, vi a, vi b] h 0 0 Q := by
  refine Con.of ok_X8_isSpan (nones := []) rfl (by simp) ?_
  refine go ok_X8_isSpan ?_
  refine Cal.z (k_isHour (S := S) hn (fun c => ?_) (fun c => ?_))
  · refine go ok_X8_isSpan ?_
    refine And.intro (fun c2 => absurd c2 (by decide)) (fun c2 => ?_)
    refine go ok_X8_isSpan ?_
    refine Cal.z (k_isHour (S := S) hn (fun c3 => ?_) (fun c3 => ?_))
    · refine go ok_X8_isSpan ?_
      refine And.intro (fun c2 => absurd c2 (by decide)) (fun c2 => ?_)
      refine go ok_X8_isSpan ?_
      refine And.intro (fun c4 => ?_) (fun c4 => ?_)
      · refine go ok_X8_isSpan ?_
        refine And.intro (Or.inl rfl) ?_
        exact q2 (fun z => absurd z.2.1 (by simpa using c4))
      · refine go ok_X8_isSpan ?_
        refine And.intro (Or.inr rfl) ?_
        exact q1 ⟨c, by simpa using c4, c3.2⟩
    · refine go ok_X8_isSpan ?_
      refine And.intro (fun c2 => ?_) (fun c2 => absurd c2 (by decide))
      refine go ok_X8_isSpan ?_
      refine And.intro (Or.inl rfl) ?_
      exact q2 (fun z => c3 ⟨Int32.le_trans c.1 z.2.1, z.2.2⟩)
  · refine go ok_X8_isSpan ?_
    refine And.intro (fun c2 => ?_) (fun c2 => absurd c2 (by decide))
    refine go ok_X8_isSpan ?_
    refine And.intro (Or.inl rfl) ?_
    exact q2 (fun z => c z.1)
theorem k_isPiece {x : Int32} (q1 : 0 ≤ x ∧ x ≤ 59 → Q (some (vi 1)) h) (q2 : ¬ (0 ≤ x ∧ x ≤ 59) → Q (some (vi 0)) h) : Con l w true d HX8_isPiece [vi x] h 0 0 Q := by
  refine Con.of ok_X8_isPiece (nones := []) rfl (by simp) ?_
  refine go ok_X8_isPiece ?_
  refine And.intro (fun c => ?_) (fun c => ?_)
  · refine go ok_X8_isPiece ?_
    refine And.intro (Or.inl rfl) ?_
    exact q2 (fun z => absurd z.1 (by simpa using c))
  · refine go ok_X8_isPiece ?_
    refine And.intro (fun c2 => ?_) (fun c2 => ?_)
    · refine go ok_X8_isPiece ?_
      refine And.intro (Or.inl rfl) ?_
      exact q2 (fun z => absurd z.2 (by simpa using c2))
    · refine go ok_X8_isPiece ?_
      refine And.intro (Or.inr rfl) ?_
      exact q1 ⟨by simpa using c, by simpa using c2⟩
end C1

