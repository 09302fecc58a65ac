/-! ===== the class: read ===== -/
section C35
variable {l : Launch} {w : WD} {d : Nat} {h h0 : AH} {Q : Option AV → AH → Prop} {S : SG} {G : GH} {tx : List Int32} {i j a : Nat} {k p : Int32}
theorem RB.ox (b : RB a h0 h) (ha : a = 54 ∨ a = 56) : OX h0 h := ⟨fun f hf => ⟨b.2.1 f 62 (by omega), b.2.2.1 f 62 (by omega)⟩, fun x h1 h2 => ⟨b.2.2.2 x (by omega), by rw [b.1.2.2.1]⟩⟩
theorem OX.tH : OX h (tH h i k p) := ⟨fun f hf => ⟨hI_tH (by omega), rfl⟩, fun _ _ _ => ⟨rfl, rfl⟩⟩
theorem NRc.rt {R : NR} (hn : NRc R a h) (h7 : hC h a = 7) (ha : a = 54 ∨ a = 56) : RTc R.1 a h := ⟨h7, ha, hn.1.2, fun k hk => by rw [(hn.2.1 k hk).1]; exact (hn.2.1 k hk).2.1, hn.2.2.2⟩
theorem c_read (hc : RC S G h) (q : ∀ h', RC (readF S).2 G h' → OX h h' → Q (some (vi (readF S).1)) h') : Con l w true (d + 10) HX8_read [vr 32] h 0 0 Q := by
  have h2 := hc.rt2
  have h7 := hc.rt.1
  generalize ea : hR h 584 32 = a at h2
  generalize eb : hR h 583 32 = b at h2 h7
  have ha : a = 54 ∨ a = 56 := by omega
  have hab : ¬ a = b ∧ ¬ a + 1 = b + 1 := by omega
  refine Con.of ok_X8_read (nones := [none, none]) rfl (by simp) ?_
  refine Ex.lay (fun hy => ?_)
  have y1 := (ri_lets hy ha).1
  refine go ok_X8_read ?_
  refine Cal.z (c_openT ?_)
  refine go ok_X8_read ?_
  refine And.intro (show hC h (hR h 584 32) = 7 by rw [ea]; exact y1) ?_
  refine asCal ?_
  rw [show hR (tH h 0 0 (-1)) 584 32 = a from ea]
  refine Cal.z (c_readFromR hc.1 hc.tx ha (RB.rf a h) (fun h' i0 n R j e rb hn hl => ?_) (fun h' e pl i2 v e2 he rb hl => ?_))
  · have q := q (sI (sI (sR (sR (tH h' j 0 (-1)) 583 32 (hR (tH h' j 0 (-1)) 584 32)) 584 32 (hR (tH h' j 0 (-1)) 583 32)) 587 32 (-1)) 449 36 0)
    unfold readF at q
    rw [e] at q
    have e584 : hR (tH h' j 0 (-1)) 584 32 = a := by show hR h' 584 32 = a; rw [rb.1.2.1]; exact ea
    have e583 : hR (tH h' j 0 (-1)) 583 32 = b := by show hR h' 583 32 = b; rw [rb.1.2.1]; exact eb
    refine go ok_X8_read ?_
    refine And.intro (fun c => absurd rfl c) (fun c => ?_)
    refine go ok_X8_read ?_
    refine go ok_X8_read ?_
    refine Cal.z (c_closeText ?_)
    refine go ok_X8_read ?_
    refine q ?_ ?_
    · refine hc.cg (by show hC h' = hC h; exact rb.1.1) (fun k x hk => ?_) (fun f x h1 h2 => ?_) (fun x => ?_) (by show aR h' = aR h; exact rb.1.2.2.2.1) (fun x hx => ?_) rfl rfl rfl rfl ?_ rfl ⟨?_, ?_⟩ ?_ ⟨rfl, Nat.zero_le _, fun i hi => absurd hi (Nat.not_lt_zero _)⟩ (by show aL h' 53 = _; rw [rb.1.2.2.1]; exact hc.hs)
      · rw [hI_sI, if_neg (fun z => by omega), hI_sI, if_neg (fun z => by omega), hI_sR, hI_sR, hI_tH (by omega)]
        exact rb.2.1 k x (by omega)
      · rw [hR_sI, hR_sI, hR_sR, if_neg (fun z => h2 z.1), hR_sR, if_neg (fun z => h1 z.1)]
        show hR h' f x = hR h f x
        rw [rb.1.2.1]
      · exact rb.2.2.1 133 x (by omega)
      · exact rb.2.2.2 x (by omega)
      · show hI h' 586 32 = gNw S
        rw [rb.2.1 586 32 (by omega)]; exact hc.now
      · show RTc R.1 (hR (tH h' j 0 (-1)) 584 32) _
        rw [e584]
        refine (hn.rt (by rw [rb.1.1]; exact y1) ha).cg rfl (fun f hf => ?_) rfl rfl
        rw [hI_sI, if_neg (fun z => by omega), hI_sI, if_neg (fun z => by omega), hI_sR, hI_sR, hI_tH (by omega)]
      · show (hR (tH h' j 0 (-1)) 584 32 = 54 ∧ hR (tH h' j 0 (-1)) 583 32 = 56) ∨ (hR (tH h' j 0 (-1)) 584 32 = 56 ∧ hR (tH h' j 0 (-1)) 583 32 = 54)
        rw [e584, e583]
        omega
      · show ∀ k, k < 6 → (aI h' 35).getD k 0 = _
        rw [rb.2.2.2 35 (by omega)]; exact hc.kn
    · refine (rb.ox ha).tr ⟨fun f hf => ⟨?_, rfl⟩, fun _ _ _ => ⟨rfl, rfl⟩⟩
      rw [hI_sI, if_neg (fun z => by omega), hI_sI, if_neg (fun z => by omega), hI_sR, hI_sR, hI_tH (by omega)]
  · have q := q (sI (sI (tH h' i2 e pl) 587 32 pl) 449 36 0)
    unfold readF at q
    rw [e2] at q
    refine go ok_X8_read ?_
    refine And.intro (fun c => ?_) (fun c => absurd c he)
    refine go ok_X8_read ?_
    refine Cal.z (c_closeText ?_)
    rw [show hI (tH h' i2 e pl) 451 36 = e from rfl, if_neg he]
    refine go ok_X8_read ?_
    refine q ?_ ?_
    · refine hc.cg (by show hC h' = hC h; exact rb.1.1) (fun k x hk => ?_) (fun f x h1 h2 => ?_) (fun x => ?_) (by show aR h' = aR h; exact rb.1.2.2.2.1) (fun x hx => ?_) rfl rfl rfl rfl ?_ rfl ⟨?_, ?_⟩ ?_ ⟨rfl, Nat.zero_le _, fun i hi => absurd hi (Nat.not_lt_zero _)⟩ (by show aL h' 53 = _; rw [rb.1.2.2.1]; exact hc.hs)
      · rw [hI_sI, if_neg (fun z => by omega), hI_sI, if_neg (fun z => by omega), hI_tH (by omega)]
        exact rb.2.1 k x (by omega)
      · show hR h' f x = hR h f x
        rw [rb.1.2.1]
      · exact rb.2.2.1 133 x (by omega)
      · exact rb.2.2.2 x (by omega)
      · show hI h' 586 32 = gNw S
        rw [rb.2.1 586 32 (by omega)]; exact hc.now
      · show RTc (gRt S) (hR h' 583 32) _
        rw [rb.1.2.1]
        refine hc.rt.cg (by show hC h' _ = _; rw [rb.1.1]) (fun f hf => ?_) (rb.2.2.1 390 _ (by omega)) (rb.2.2.2 _ (by omega))
        rw [hI_sI, if_neg (fun z => by omega), hI_sI, if_neg (fun z => by omega), hI_tH (by omega)]
        exact rb.2.1 f _ (by omega)
      · show (hR h' 583 32 = 54 ∧ hR h' 584 32 = 56) ∨ (hR h' 583 32 = 56 ∧ hR h' 584 32 = 54)
        rw [rb.1.2.1]; exact hc.rt2
      · show ∀ k, k < 6 → (aI h' 35).getD k 0 = _
        rw [rb.2.2.2 35 (by omega)]; exact hc.kn
    · refine (rb.ox ha).tr ⟨fun f hf => ⟨?_, rfl⟩, fun _ _ _ => ⟨rfl, rfl⟩⟩
      rw [hI_sI, if_neg (fun z => by omega), hI_sI, if_neg (fun z => by omega), hI_tH (by omega)]
end C35

