/-! ===== the class: feed, read ===== -/
section C34
variable {l : Launch} {w : WD} {d : Nat} {h h0 : AH} {Q : Option AV → AH → Prop} {S : SG} {G : GH} {tx : List Int32} {i j a : Nat} {k p : Int32}
theorem hI_tH {f x : Nat} (hf : ¬ (450 ≤ f ∧ f ≤ 452)) : hI (tH h i k p) f x = hI h f x := by
  unfold tH
  rw [hI_sI, if_neg (fun z => by omega), hI_sI, if_neg (fun z => by omega), hI_sI, if_neg (fun z => by omega)]
theorem c_append (hc : RC S G h) {n : Nat} (hn : n ≤ 8) {bytes : Int64} (q1 : (gTx S).length + n ≤ 200 → ∀ h', RC (sTx S (gTx S ++ fdB bytes n)) G h' → OX h h' → Q (some (vi 1)) h') (q2 : ¬ (gTx S).length + n ≤ 200 → Q (some (vi 0)) h) : Con l w true d HX6_append [vr 36, vi (nI n), vl bytes] h 0 0 Q := by
  have h200 := hc.tx.2.1
  have lp : ∀ (k : Nat) (tx : List Int32) (h' : AH), (gTx S).length + n ≤ 200 → k ≤ n → tx.length + k = (gTx S).length + n → tx ++ fdB bytes k = gTx S ++ fdB bytes n → RC (sTx S tx) G h' → OX h h' → Ex l w true mX6_append d Q 19 [some (vr 36), some (vi (nI n)), some (vl bytes), none, some (vi (nI k - 1))] [] h' 0 0 := by
    intro k
    induction k with
    | zero =>
      intro tx h' hle hk hl e hc' ho
      rw [fdB, List.append_nil] at e
      subst e
      refine go ok_X6_append ?_
      refine And.intro (fun c => ?_) (fun c => absurd c (by decide))
      refine go ok_X6_append ?_
      refine And.intro (Or.inr rfl) ?_
      exact q1 hle _ hc' ho
    | succ k ih =>
      intro tx h' hle hk hl e hc' ho
      have ek : nI (k + 1) - 1 = nI k := nI_prd (n := k + 1) (by omega)
      rw [ek]
      have m6 : TXc tx h' := hc'.tx
      have e449 : hI h' 449 36 = nI tx.length := m6.1
      refine Ex.lay (fun hy => ?_)
      have hh := ih (tx ++ [(bytes >>> (((8 : Int32) * nI k).toInt64 &&& 63) &&& 255).toInt32]) (sI (tI h' 37 ((aI h' 37).set tx.length (bytes >>> (((8 : Int32) * nI k).toInt64 &&& 63) &&& 255).toInt32)) 449 36 (nI tx.length + 1)) hle (by omega) (by rw [List.length_append, List.length_singleton]; omega) (by rw [← e, fdB]; simp) ?_ (ho.tr ⟨fun f hf => ⟨by rw [hI_sI, if_neg (fun z => by omega)]; rfl, rfl⟩, fun x h1 h2 => ⟨by rw [aI_sI, aI_tI, if_neg (by omega)], rfl⟩⟩)
      · refine go ok_X6_append ?_
        refine And.intro (fun c => absurd c (nI_pos (by omega))) (fun c => ?_)
        refine go ok_X6_append ?_
        refine And.intro (jx37 hy (k := tx.length) m6.1 (by omega)) ?_
        rw [e449, nI_clamp (by omega)]
        rw [← e449, Int32.sub_eq_add_neg] at hh
        exact hh
      · refine hc'.cg rfl (fun k x hk => by rw [hI_sI, if_neg (fun z => by omega)]; rfl) (fun _ _ _ _ => rfl) (fun _ => rfl) rfl (fun x hx => by rw [aI_sI, aI_tI, if_neg (by omega)]) rfl rfl rfl rfl hc'.now hc'.2.2.1 ⟨hc'.rt.cg rfl (fun f hf => by rw [hI_sI, if_neg (fun z => by omega)]; rfl) rfl (by have := hc'.rt.2.1; show aI (sI (tI h' 37 _) 449 36 _) (hR h' 583 32 + 1) = _; rw [aI_sI, aI_tI, if_neg (by omega)]), hc'.rt2⟩ (by rw [aI_sI, aI_tI, if_neg (by omega)]; exact hc'.kn) ⟨?_, ?_, fun i hi => ?_⟩ hc'.hs
        · show nI tx.length + 1 = nI (tx ++ [_]).length
          rw [nI_1, List.length_append]; rfl
        · show (tx ++ [_]).length ≤ 200
          rw [List.length_append, List.length_singleton]; omega
        · replace hi : i < (tx ++ [(bytes >>> (((8 : Int32) * nI k).toInt64 &&& 63) &&& 255).toInt32]).length := hi
          rw [List.length_append, List.length_singleton] at hi
          show ((aI h' 37).set tx.length _).getD i 0 = (tx ++ [_]).getD i 0
          rw [getD_set, getD_snoc, yn37 hy]
          by_cases c : i = tx.length
          · rw [if_pos ⟨c, by omega⟩, if_neg (by omega), if_pos c]
          · rw [if_neg (fun z => c z.1), if_pos (by omega)]; exact m6.2.2 i (by omega)
  refine Con.of ok_X6_append (nones := [none]) rfl (by simp) ?_
  refine go ok_X6_append ?_
  refine asAnd ?_
  rw [hc.tx.1, show (200 : Int32) = nI 200 from rfl, nI_add, nI_leI (by omega) (by omega)]
  refine And.intro (fun c => ?_) (fun c => ?_)
  · refine go ok_X6_append ?_
    exact lp n (gTx S) h c (Nat.le_refl _) rfl rfl hc (OX.rf h)
  · refine go ok_X6_append ?_
    refine And.intro (Or.inl rfl) ?_
    exact q2 c
theorem c_feed (hc : RC S G h) {n : Int32} {bytes : Int64} (q : ∀ h', RC (feedF S n bytes).2 G h' → OX h h' → Q (some (vi (feedF S n bytes).1)) h') : Con l w true (d + 1) HX8_feed [vr 32, vi n, vl bytes] h 0 0 Q := by
  have h200 := hc.tx.2.1
  refine Con.of ok_X8_feed (nones := []) rfl (by simp) ?_
  have k11 : ¬ (1 ≤ n ∧ n ≤ 8) → Ex l w true mX8_feed (d + 1) Q 11 [some (vr 32), some (vi n), some (vl bytes), none] [] h 0 0 := by
    intro c
    rw [feedF, if_neg c] at q
    refine go ok_X8_feed ?_
    exact q _ hc (OX.rf h)
  refine go ok_X8_feed ?_
  refine And.intro (fun c => ?_) (fun c => ?_)
  · exact k11 (fun z => absurd z.1 (by simpa using c))
  · refine go ok_X8_feed ?_
    refine And.intro (fun c2 => ?_) (fun c2 => ?_)
    · have c3 : 1 ≤ n ∧ n ≤ 8 := ⟨by simpa using c, c2⟩
      rw [feedF, if_pos c3] at q
      obtain ⟨m, hm, rfl⟩ := natOf (n := 8) (by decide) (Int32.le_trans (by decide) c3.1) c3.2
      rw [nI_clamp (by omega), show (200 : Int32) = nI 200 from rfl, nI_add] at q
      refine go ok_X8_feed ?_
      refine Cal.z (c_append hc (by omega) (fun c4 h' hc' ho => ?_) (fun c4 => ?_))
      · rw [if_pos (by rw [nI_leI (by omega) (by omega)]; exact c4)] at q
        refine go ok_X8_feed ?_
        refine And.intro (fun c5 => absurd c5 (by decide)) (fun c5 => ?_)
        refine go ok_X8_feed ?_
        exact Qv (q _ hc' ho) hc'.tx.1.symm
      · rw [if_neg (by rw [nI_leI (by omega) (by omega)]; exact c4)] at q
        refine go ok_X8_feed ?_
        refine And.intro (fun c5 => ?_) (fun c5 => absurd c5 (by decide))
        refine go ok_X8_feed ?_
        exact q _ hc (OX.rf h)
    · exact k11 (fun z => c2 z.2)
theorem c_closeText {n : Int32} (q : Q (some (vi (if hI h 451 36 = 0 then n else -10 - hI h 451 36))) (sI (sI h 587 32 (hI h 452 36)) 449 36 0)) : Con l w true d HX8_closeText [vr 32, vi n] h 0 0 Q := by
  refine Con.of ok_X8_closeText (nones := []) rfl (by simp) ?_
  refine go ok_X8_closeText ?_
  refine asAnd ?_
  rw [show hI (sI (sI h 587 32 (hI h 452 36)) 449 36 0) 451 36 = hI h 451 36 from rfl]
  refine And.intro (fun c => ?_) (fun c => ?_)
  · rw [if_neg c] at q
    refine go ok_X8_closeText ?_
    exact q
  · rw [if_pos c] at q
    refine go ok_X8_closeText ?_
    exact q
theorem c_openT (q : Q none (tH h 0 0 (-1))) : Con l w true d HX6_open [vr 36] h 0 0 Q := by
  refine Con.of ok_X6_open (nones := []) rfl (by simp) ?_
  refine go ok_X6_open ?_
  exact q
end C34

