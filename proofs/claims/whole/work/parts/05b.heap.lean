/-! ===== what the small heap tells, and how it changes ===== -/
theorem vw_lt {ci : Nat} {r : vw_C} (h : vwCl[ci]? = some r) : ci < 11 := by
  have := (List.getElem?_eq_some_iff.mp h).1
  exact this
theorem la_all {ci : Nat} {r : vw_C} (h : vwCl[ci]? = some r) : ∀ q ∈ u_ws r.1 r.2.1 r.2.2, q ∈ lw_tbl := by
  have hl := vw_lt h
  match ci, hl, h with
  | 0, _, h => cases h; exact la_Jx4a65c
  | 1, _, h => cases h; exact la_X0
  | 2, _, h => cases h; exact la_X1
  | 3, _, h => cases h; exact la_X2
  | 4, _, h => cases h; exact la_X3
  | 5, _, h => cases h; exact la_X4
  | 6, _, h => cases h; exact la_X5
  | 7, _, h => cases h; exact la_X6
  | 8, _, h => cases h; exact la_X7
  | 9, _, h => cases h; exact la_X8
  | 10, _, h => cases h; exact la_X9
theorem ty_all {ci : Nat} {r : vw_C} (h : vwCl[ci]? = some r) : ∀ k, k < r.2.2 → parseFieldDescriptor (r.2.1 k).2.2.1 = some (fT ci k) := by
  have hl := vw_lt h
  match ci, hl, h with
  | 0, _, h => cases h; exact tyJx4a65c_ok
  | 1, _, h => cases h; exact tyX0_ok
  | 2, _, h => cases h; exact tyX1_ok
  | 3, _, h => cases h; exact tyX2_ok
  | 4, _, h => cases h; exact tyX3_ok
  | 5, _, h => cases h; exact tyX4_ok
  | 6, _, h => cases h; exact tyX5_ok
  | 7, _, h => cases h; exact tyX6_ok
  | 8, _, h => cases h; exact tyX7_ok
  | 9, _, h => cases h; exact tyX8_ok
  | 10, _, h => cases h; exact tyX9_ok
theorem nm_all {ci : Nat} {r : vw_C} (h : vwCl[ci]? = some r) : ∀ a, a < r.2.2 → ∀ b, b < r.2.2 → a ≠ b → (r.2.1 a).2.1 ≠ (r.2.1 b).2.1 := by
  have hl := vw_lt h
  match ci, hl, h with
  | 0, _, h => cases h; exact nmJx4a65c
  | 1, _, h => cases h; exact nmX0
  | 2, _, h => cases h; exact nmX1
  | 3, _, h => cases h; exact nmX2
  | 4, _, h => cases h; exact nmX3
  | 5, _, h => cases h; exact nmX4
  | 6, _, h => cases h; exact nmX5
  | 7, _, h => cases h; exact nmX6
  | 8, _, h => cases h; exact nmX7
  | 9, _, h => cases h; exact nmX8
  | 10, _, h => cases h; exact nmX9
theorem kd_all : ∀ ci, ci < 11 → ∀ k, k < 50 → fK (fT ci k) = 0 ∨ fK (fT ci k) = 1 ∨ fK (fT ci k) = 2 ∨ fK (fT ci k) = 3 := by decide +kernel
theorem n_all {ci : Nat} {r : vw_C} (h : vwCl[ci]? = some r) : r.2.2 ≤ 50 := by
  have hl := vw_lt h
  match ci, hl, h with
  | 0, _, h => cases h; decide
  | 1, _, h => cases h; decide
  | 2, _, h => cases h; decide
  | 3, _, h => cases h; decide
  | 4, _, h => cases h; decide
  | 5, _, h => cases h; decide
  | 6, _, h => cases h; decide
  | 7, _, h => cases h; decide
  | 8, _, h => cases h; decide
  | 9, _, h => cases h; decide
  | 10, _, h => cases h; decide
theorem rho_own (w : WD) {n : Nat} (h : 32 ≤ n) : rho w n = wB w + (n - 32) := by unfold rho; rw [if_neg (by omega)]
theorem rho_ext (w : WD) {n : Nat} (h : n < 32) : rho w n = wX w n := by unfold rho; rw [if_pos h]
theorem rho_ne (w : WD) {n a : Nat} (hn : 32 ≤ n) (ha : 32 ≤ a) (h : n ≠ a) : rho w n ≠ rho w a := by rw [rho_own w hn, rho_own w ha]; omega
theorem t_OB.keep {o : Nat} {cC : ClassId} {N : Nat} {iS : Nat → Nat} {H H' : Heap} {V V' : Nat → Value} (h : t_OB o cC N iS H V) (hq : H'[o]? = H[o]?) (hv : ∀ k, k < N → V' k = V k) : t_OB o cC N iS H' V' := by
  obtain ⟨cell, a, b, c, e⟩ := h
  exact ⟨cell, hq.trans a, b, c, fun k hk => by rw [hv k hk]; exact e k hk⟩
theorem lk_mem {α : Type} : ∀ {L : List (Nat × α)} {k : Nat} {a : α}, lk L k = some a → (k, a) ∈ L
  | [], _, _, h => by cases h
  | (i, b) :: r, k, a, h => by
    unfold lk at h
    split at h
    · rename_i e
      cases h
      rw [Nat.eq_of_beq_eq_true e]
      exact List.mem_cons_self
    · exact List.mem_cons_of_mem _ (lk_mem h)
theorem lay_small : (∀ q ∈ layC, q.1 < 88) ∧ (∀ q ∈ layR, q.2.1 < 88) ∧ (∀ q ∈ layI, q.1 < 88) ∧ (∀ q ∈ layJ, q.1 < 88) := by decide
theorem lay_sI {h : AH} {f a : Nat} {v : Int32} (hy : Lay h) : Lay (sI h f a v) := hy
theorem lay_sL {h : AH} {f a : Nat} {v : Int64} (hy : Lay h) : Lay (sL h f a v) := hy
theorem lay_tR {h : AH} {a : Nat} {v : List Nat} (hy : Lay h) : Lay (tR h a v) := hy
theorem lay_sR {h : AH} {f a : Nat} {v : Nat} (hf : noFin true f = true) (hy : Lay h) : Lay (sR h f a v) := by
  refine ⟨hy.1, hy.2.1, fun q hq => ?_, hy.2.2.2⟩
  have h1 := List.all_eq_true.mp hf q hq
  have h2 : q.1 ≠ f := fun e => by rw [e] at h1; simp at h1
  show up2 (hR h) f a v q.1 q.2.1 = q.2.2
  unfold up2
  rw [if_neg (fun z => h2 z.1)]
  exact hy.2.2.1 q hq
theorem lay_tI {h : AH} {a : Nat} {v : List Int32} (hl : v.length = (aI h a).length) (hy : Lay h) : Lay (tI h a v) := by
  refine ⟨hy.1, hy.2.1, hy.2.2.1, fun q hq => ?_, hy.2.2.2.2⟩
  show (up1 (aI h) a v q.1).length = q.2
  unfold up1
  split
  · rename_i e
    rw [hl, ← e]
    exact hy.2.2.2.1 q hq
  · exact hy.2.2.2.1 q hq
theorem lay_tL {h : AH} {a : Nat} {v : List Int64} (hl : v.length = (aL h a).length) (hy : Lay h) : Lay (tL h a v) := by
  refine ⟨hy.1, hy.2.1, hy.2.2.1, hy.2.2.2.1, fun q hq => ?_⟩
  show (up1 (aL h) a v q.1).length = q.2
  unfold up1
  split
  · rename_i e
    rw [hl, ← e]
    exact hy.2.2.2.2 q hq
  · exact hy.2.2.2.2 q hq
/-- what holds of the fixed cells holds behind a new one -/
theorem Lay.grow {h h' : AH} (hy : Lay h) (hz : hZ h ≤ hZ h') (hc : ∀ n, n < 88 → hC h' n = hC h n) (hr : ∀ f n, n < 88 → hR h' f n = hR h f n) (hi : ∀ n, n < 88 → aI h' n = aI h n) (hl : ∀ n, n < 88 → aL h' n = aL h n) : Lay h' := by
  refine ⟨Nat.le_trans hy.1 hz, fun q hq => ?_, fun q hq => ?_, fun q hq => ?_, fun q hq => ?_⟩
  · rw [hc _ (lay_small.1 q hq)]; exact hy.2.1 q hq
  · rw [hr _ _ (lay_small.2.1 q hq)]; exact hy.2.2.1 q hq
  · rw [hi _ (lay_small.2.2.1 q hq)]; exact hy.2.2.2.1 q hq
  · rw [hl _ (lay_small.2.2.2 q hq)]; exact hy.2.2.2.2 q hq
theorem sing_in : ∀ ci, ci < 11 → sing ci ≠ 0 → (sing ci, ci + 1) ∈ layC := by decide
theorem fin_in : ∀ q ∈ finR, (q.1, sing (q.1 / 64), q.2) ∈ layR := by decide
theorem ifB_inv {b : Bool} {A : Prop} (h : ifB b A) : b = true ∧ A := by
  cases b
  · exact h.elim
  · exact ⟨rfl, h⟩
theorem nz_inv {d : Nat} {A : Prop} (h : nz d A) : d ≠ 0 ∧ A := by
  cases d
  · exact h.elim
  · exact ⟨by omega, h⟩
theorem isC_inv {lm : Bool} {ci a : Nat} {h : AH} {A : Prop} (hy : lm = true → Lay h) (hci : ci < 11 ∨ ci = 11) (hh : isC lm ci a h A) : hC h a = ci + 1 ∧ A := by
  unfold isC at hh
  split at hh
  · exact hh
  · split at hh
    · exact hh
    · rename_i s e
      obtain ⟨h1, h2⟩ := ifB_inv hh
      have h3 := Nat.eq_of_beq_eq_true h1
      refine ⟨?_, h2⟩
      rcases hci with hci | hci
      · have h4 := (hy rfl).2.1 _ (sing_in ci hci (by rw [e]; omega))
        dsimp only at h4
        rw [e] at h4
        rw [h3]
        exact h4
      · subst hci
        cases e
theorem rF_inv {lm : Bool} {ci key a k : Nat} {h : AH} {N : Nat → Prop} (hy : lm = true → Lay h) (hkey : key = 64 * ci + k) (hk : k < 64) (ha : lm = true → sing ci ≠ 0 → a = sing ci) (hh : rF lm ci key a h N) : N (hR h key a) := by
  unfold rF at hh
  split at hh
  · exact hh
  · split at hh
    · exact hh
    · rename_i s e
      split at hh
      · rename_i v e2
        have h3 := (hy rfl).2.2.1 _ (fin_in _ (lk_mem e2))
        dsimp only at h3
        have h5 : key / 64 = ci := by omega
        rw [h5] at h3
        rw [ha rfl (by rw [e]; omega), h3]
        exact hh
      · exact hh
theorem isC_A {lm : Bool} {ci a : Nat} {h : AH} {A : Prop} (hh : isC lm ci a h A) : A := by
  unfold isC at hh
  split at hh
  · exact hh.2
  · split at hh
    · exact hh.2
    · exact (ifB_inv hh).2
theorem isC_sing {lm : Bool} {ci a : Nat} {h : AH} {A : Prop} (hh : isC lm ci a h A) : lm = true → sing ci ≠ 0 → a = sing ci := by
  intro h1 h2
  subst h1
  unfold isC at hh
  dsimp only at hh
  split at hh
  · rename_i e; exact absurd e h2
  · rename_i s e
    rw [e]
    exact Nat.eq_of_beq_eq_true (ifB_inv hh).1
section Heap
variable {w : WD} {lm : Bool} {h h' : AH} {H H' : Heap} {a n ci : Nat} {r : vw_C}
/-- two heaps tell the same of a place -/
def same1 (h h' : AH) (n : Nat) : Prop := (∀ f, hI h' f n = hI h f n) ∧ (∀ f, hL h' f n = hL h f n) ∧ (∀ f, hR h' f n = hR h f n) ∧ aI h' n = aI h n ∧ aL h' n = aL h n ∧ aR h' n = aR h n
theorem fV_same {kd key : Nat} (hs : same1 h h' n) : fV w h' kd key n = fV w h kd key n := by
  unfold fV
  split
  · rw [hs.2.1]
  · rw [hs.2.2.1]
  · rw [hs.1]
theorem cOK.keep (hc : cOK w h n H) (hs : same1 h h' n) (ht : hC h' n = hC h n) (hq : H'[rho w n]? = H[rho w n]?) : cOK w h' n H' := by
  rcases hc with ⟨ci, r, h1, h2, h3⟩ | ⟨h1, h2⟩ | ⟨h1, h2⟩ | ⟨h1, h2⟩ | ⟨h1, h2⟩
  · exact Or.inl ⟨ci, r, ht.trans h1, h2, h3.keep hq (fun k _ => fV_same hs)⟩
  · exact Or.inr (Or.inl ⟨ht.trans h1, by rw [hq, hs.2.2.2.1]; exact h2⟩)
  · exact Or.inr (Or.inr (Or.inl ⟨ht.trans h1, by rw [hq, hs.2.2.2.2.1]; exact h2⟩))
  · exact Or.inr (Or.inr (Or.inr (Or.inl ⟨ht.trans h1, by rw [hq, hs.2.2.2.1]; exact h2⟩)))
  · exact Or.inr (Or.inr (Or.inr (Or.inr ⟨ht.trans h1, by rw [hq, hs.2.2.2.2.2]; exact h2⟩)))
theorem xOK.keep (hx : xOK w h n) (hs : same1 h h' n) (ht : hC h' n = hC h n) : xOK w h' n := by
  unfold xOK at *
  rw [ht, hs.1, hs.2.2.1, hs.2.2.2.1, hs.2.2.2.2.2]
  exact hx
theorem Sim.upd (hS : Sim w lm h H) (hy : lm = true → Lay h → Lay h') (ha : 32 ≤ a) (hz : hZ h' = hZ h) (hc : ∀ n, hC h' n = hC h n) (hsz : H'.size = H.size) (hoth : ∀ q, q ≠ rho w a → H'[q]? = H[q]?) (hsame : ∀ n, n ≠ a → same1 h h' n) (hcell : cOK w h' a H') : Sim w lm h' H' := by
  obtain ⟨h1, h2, h3, h4⟩ := hS
  refine ⟨by rw [hsz, hz]; exact h1, by rw [hz]; exact h2, fun n hn => ?_, fun z => hy z (h4 z)⟩
  rw [hc] at hn
  by_cases hna : n = a
  · subst hna
    rcases h3 n hn with ⟨b1, b2, -⟩ | ⟨b1, -⟩
    · exact Or.inl ⟨b1, by rw [hz]; exact b2, hcell⟩
    · omega
  · rcases h3 n hn with ⟨b1, b2, b3⟩ | ⟨b1, b2⟩
    · exact Or.inl ⟨b1, by rw [hz]; exact b2, b3.keep (hsame n hna) (hc n) (hoth _ (rho_ne w b1 ha hna))⟩
    · exact Or.inr ⟨b1, b2.keep (hsame n hna) (hc n)⟩
/-- a new cell at the end -/
theorem Sim.push {t : Nat} {c : Cell} (hS : Sim w lm h H) (hy : lm = true → Lay h → Lay h') (hz : hZ h' = hZ h + 1) (ht : t ≠ 0) (hc : ∀ n, hC h' n = if n = hZ h then t else hC h n) (hH : H' = H.push c) (hsame : ∀ n, n ≠ hZ h → same1 h h' n) (hcell : cOK w h' (hZ h) H') : Sim w lm h' H' := by
  obtain ⟨h1, h2, h3, h4⟩ := hS
  subst hH
  refine ⟨by rw [Array.size_push, hz]; omega, by omega, fun n hn => ?_, fun z => hy z (h4 z)⟩
  rw [hc] at hn
  by_cases hna : n = hZ h
  · subst hna
    exact Or.inl ⟨h2, by omega, hcell⟩
  · rw [if_neg hna] at hn
    have hcn : hC h' n = hC h n := by rw [hc, if_neg hna]
    rcases h3 n hn with ⟨b1, b2, b3⟩ | ⟨b1, b2⟩
    · refine Or.inl ⟨b1, by omega, b3.keep (hsame n hna) hcn ?_⟩
      rw [Array.getElem?_push, if_neg]
      rw [rho_own w b1]
      omega
    · exact Or.inr ⟨b1, b2.keep (hsame n hna) hcn⟩
theorem Sim.newAt (hS : Sim w lm h H) : rho w (hZ h) = H.size := by rw [rho_own w hS.2.1]; have := hS.1; have := hS.2.1; omega
theorem Sim.obj (hS : Sim w lm h H) (hc : hC h a = ci + 1) (hr : vwCl[ci]? = some r) : 32 ≤ a ∧ a < hZ h ∧ t_OB (rho w a) (w.1 ci) r.2.2 (w.2.1 ci) H (fun k => fV w h (fK (fT ci k)) (64 * ci + k) a) := by
  have hl := vw_lt hr
  rcases hS.2.2.1 a (by omega) with ⟨b1, b2, b3⟩ | ⟨b1, b2⟩
  · refine ⟨b1, b2, ?_⟩
    rcases b3 with ⟨ci', r', g1, g2, g3⟩ | ⟨g1, g2⟩ | ⟨g1, g2⟩ | ⟨g1, g2⟩ | ⟨g1, g2⟩
    · have : ci' = ci := by omega
      subst this
      cases hr.symm.trans g2
      exact g3
    all_goals omega
  · rcases b2 with ⟨g1, g2, g3⟩ | ⟨g1, g2, g3⟩ | ⟨g1, g2, g3, g4⟩ | ⟨g1, g2, g3, g4⟩ <;> omega
theorem Sim.arrI (hS : Sim w lm h H) (hc : hC h a = 101) : 32 ≤ a ∧ a < hZ h ∧ H[rho w a]? = some (arrL (wA w 0) ((aI h a).map Value.int)) := by
  rcases hS.2.2.1 a (by omega) with ⟨b1, b2, b3⟩ | ⟨b1, b2⟩
  · refine ⟨b1, b2, ?_⟩
    rcases b3 with ⟨ci', r', g1, g2, g3⟩ | ⟨g1, g2⟩ | ⟨g1, g2⟩ | ⟨g1, g2⟩ | ⟨g1, g2⟩
    · have := vw_lt g2
      omega
    · exact g2
    all_goals omega
  · rcases b2 with ⟨g1, g2, g3⟩ | ⟨g1, g2, g3⟩ | ⟨g1, g2, g3, g4⟩ | ⟨g1, g2, g3, g4⟩ <;> omega
theorem Sim.arrJ (hS : Sim w lm h H) (hc : hC h a = 102) : 32 ≤ a ∧ a < hZ h ∧ H[rho w a]? = some (arrL (wA w 1) ((aL h a).map Value.long)) := by
  rcases hS.2.2.1 a (by omega) with ⟨b1, b2, b3⟩ | ⟨b1, b2⟩
  · refine ⟨b1, b2, ?_⟩
    rcases b3 with ⟨ci', r', g1, g2, g3⟩ | ⟨g1, g2⟩ | ⟨g1, g2⟩ | ⟨g1, g2⟩ | ⟨g1, g2⟩
    · have := vw_lt g2
      omega
    · omega
    · exact g2
    all_goals omega
  · rcases b2 with ⟨g1, g2, g3⟩ | ⟨g1, g2, g3⟩ | ⟨g1, g2, g3, g4⟩ | ⟨g1, g2, g3, g4⟩ <;> omega
theorem Sim.arrB (hS : Sim w lm h H) (hc : hC h a = 103) : 32 ≤ a ∧ a < hZ h ∧ H[rho w a]? = some (arrL (wA w 2) ((aI h a).map Value.int)) := by
  rcases hS.2.2.1 a (by omega) with ⟨b1, b2, b3⟩ | ⟨b1, b2⟩
  · refine ⟨b1, b2, ?_⟩
    rcases b3 with ⟨ci', r', g1, g2, g3⟩ | ⟨g1, g2⟩ | ⟨g1, g2⟩ | ⟨g1, g2⟩ | ⟨g1, g2⟩
    · have := vw_lt g2
      omega
    · omega
    · omega
    · exact g2
    · omega
  · rcases b2 with ⟨g1, g2, g3⟩ | ⟨g1, g2, g3⟩ | ⟨g1, g2, g3, g4⟩ | ⟨g1, g2, g3, g4⟩ <;> omega
/-- a row of references: an own one, or the empty one that was there -/
theorem Sim.arrO (hS : Sim w lm h H) (hc : hC h a = 104) : (32 ≤ a ∧ a < hZ h ∧ H[rho w a]? = some (arrL (wA w 3) ((aR h a).map (rvr w)))) ∨ (a = 1 ∧ aR h a = []) := by
  rcases hS.2.2.1 a (by omega) with ⟨b1, b2, b3⟩ | ⟨b1, b2⟩
  · refine Or.inl ⟨b1, b2, ?_⟩
    rcases b3 with ⟨ci', r', g1, g2, g3⟩ | ⟨g1, g2⟩ | ⟨g1, g2⟩ | ⟨g1, g2⟩ | ⟨g1, g2⟩
    · have := vw_lt g2
      omega
    · omega
    · omega
    · omega
    · exact g2
  · rcases b2 with ⟨g1, g2, g3⟩ | ⟨g1, g2, g3⟩ | ⟨g1, g2, g3, g4⟩ | ⟨g1, g2, g3, g4⟩
    · omega
    · exact Or.inr ⟨g1, g3⟩
    · omega
    · omega
theorem Sim.str (hS : Sim w lm h H) (hc : hC h a = 12) : 2 ≤ a ∧ a < 13 ∧ hR h 704 a = a + 11 ∧ hI h 705 a = 0 := by
  rcases hS.2.2.1 a (by omega) with ⟨b1, b2, b3⟩ | ⟨b1, b2⟩
  · rcases b3 with ⟨ci', r', g1, g2, g3⟩ | ⟨g1, g2⟩ | ⟨g1, g2⟩ | ⟨g1, g2⟩ | ⟨g1, g2⟩
    · have := vw_lt g2
      omega
    all_goals omega
  · rcases b2 with ⟨g1, g2, g3⟩ | ⟨g1, g2, g3⟩ | ⟨g1, g2, g3, g4⟩ | ⟨g1, g2, g3, g4⟩
    · omega
    · omega
    · exact ⟨g1, g2, g4⟩
    · omega
theorem Sim.byt (hS : Sim w lm h H) (hc : hC h a = 105) : 13 ≤ a ∧ a < 24 ∧ aI h a = sBytes.getD (a - 13) [] := by
  rcases hS.2.2.1 a (by omega) with ⟨b1, b2, b3⟩ | ⟨b1, b2⟩
  · rcases b3 with ⟨ci', r', g1, g2, g3⟩ | ⟨g1, g2⟩ | ⟨g1, g2⟩ | ⟨g1, g2⟩ | ⟨g1, g2⟩
    · have := vw_lt g2
      omega
    all_goals omega
  · rcases b2 with ⟨g1, g2, g3⟩ | ⟨g1, g2, g3⟩ | ⟨g1, g2, g3, g4⟩ | ⟨g1, g2, g3, g4⟩
    · omega
    · omega
    · omega
    · exact ⟨g1, g2, g4⟩
theorem Sim.scr (hS : Sim w lm h H) (hc : hC h a = 106) : a = 26 ∧ aI h a = wS w := by
  rcases hS.2.2.1 a (by omega) with ⟨b1, b2, b3⟩ | ⟨b1, b2⟩
  · rcases b3 with ⟨ci', r', g1, g2, g3⟩ | ⟨g1, g2⟩ | ⟨g1, g2⟩ | ⟨g1, g2⟩ | ⟨g1, g2⟩
    · have := vw_lt g2
      omega
    all_goals omega
  · rcases b2 with ⟨g1, g2, g3⟩ | ⟨g1, g2, g3⟩ | ⟨g1, g2, g3, g4⟩ | ⟨g1, g2, g3, g4⟩
    · exact ⟨g1, g3⟩
    all_goals omega
theorem up2_ne {α : Type} {f : Nat → Nat → α} {k a g b : Nat} {v : α} (hb : b ≠ a) : up2 f k a v g b = f g b := by unfold up2; rw [if_neg (fun h => hb h.2)]
theorem up1_ne {α : Type} {f : Nat → α} {a b : Nat} {v : α} (hb : b ≠ a) : up1 f a v b = f b := by unfold up1; rw [if_neg hb]
theorem up1_eq {α : Type} {f : Nat → α} {a : Nat} {v : α} : up1 f a v a = v := by unfold up1; rw [if_pos rfl]
theorem sI_same {f a : Nat} {v : Int32} (hn : n ≠ a) : same1 h (sI h f a v) n := ⟨fun g => up2_ne hn, fun _ => rfl, fun _ => rfl, rfl, rfl, rfl⟩
theorem sL_same {f a : Nat} {v : Int64} (hn : n ≠ a) : same1 h (sL h f a v) n := ⟨fun _ => rfl, fun g => up2_ne hn, fun _ => rfl, rfl, rfl, rfl⟩
theorem sR_same {f a : Nat} {v : Nat} (hn : n ≠ a) : same1 h (sR h f a v) n := ⟨fun _ => rfl, fun _ => rfl, fun g => up2_ne hn, rfl, rfl, rfl⟩
theorem tI_same {a : Nat} {v : List Int32} (hn : n ≠ a) : same1 h (tI h a v) n := ⟨fun _ => rfl, fun _ => rfl, fun _ => rfl, up1_ne hn, rfl, rfl⟩
theorem tL_same {a : Nat} {v : List Int64} (hn : n ≠ a) : same1 h (tL h a v) n := ⟨fun _ => rfl, fun _ => rfl, fun _ => rfl, rfl, up1_ne hn, rfl⟩
theorem tR_same {a : Nat} {v : List Nat} (hn : n ≠ a) : same1 h (tR h a v) n := ⟨fun _ => rfl, fun _ => rfl, fun _ => rfl, rfl, rfl, up1_ne hn⟩
theorem nW_same {t : Nat} (hn : n ≠ hZ h) : same1 h (nW h t) n := ⟨fun _ => if_neg hn, fun _ => if_neg hn, fun _ => if_neg hn, up1_ne hn, up1_ne hn, up1_ne hn⟩
/-- a field's change in the list of a cell's fields -/
theorem fV_set {v : Value} {k : Nat} (hv : fV w h' (fK (fT ci k)) (64 * ci + k) a = v) (ho : ∀ j, j ≠ k → fV w h' (fK (fT ci j)) (64 * ci + j) a = fV w h (fK (fT ci j)) (64 * ci + j) a) (j : Nat) :
    fV w h' (fK (fT ci j)) (64 * ci + j) a = updV (fun k => fV w h (fK (fT ci k)) (64 * ci + k) a) k v j := by
  unfold updV
  by_cases e : j = k
  · subst e
    rw [if_pos rfl]
    exact hv
  · rw [if_neg e]
    exact ho j e
theorem arrL_eq (cA : ClassId) (vs : List Value) : arrL cA vs = arrV cA vs.length (fun j => vs.getD j .null) := by
  unfold arrL arrV
  congr 1
  apply Array.ext
  · simp
  · intro i h1 h2
    simp at h1
    simp [h1]
theorem arrL_set (cA : ClassId) (vs : List Value) (i : Nat) (v : Value) : (arrL cA vs).setSlot i v = arrL cA (vs.set i v) := by
  unfold arrL Cell.setSlot
  simp
theorem arrL_get {cA : ClassId} {vs : List Value} {i : Nat} {v : Value} (hv : vs[i]? = some v) : (arrL cA vs).slots[i]? = some v := by
  unfold arrL
  simpa using hv
theorem arrL_size (cA : ClassId) (vs : List Value) : (arrL cA vs).slots.size = vs.length := by simp [arrL]
end Heap
