/-! ===== the user's rows: values, heaps, the layout ===== -/
abbrev vi (x : Int32) : AV := .inl x
abbrev vl (x : Int64) : AV := .inr (.inl x)
abbrev vr (x : Nat) : AV := .inr (.inr x)
def b2i (b : Bool) : Int32 := if b then 1 else 0
theorem b2i_t : b2i true = 1 := rfl
theorem b2i_f : b2i false = 0 := rfl
theorem b2i_ne {b : Bool} : (¬ b2i b = 0) ↔ b = true := by cases b <;> decide
theorem b2i_eq {b : Bool} : b2i b = 0 ↔ b = false := by cases b <;> decide
theorem b2i_01 (b : Bool) : b2i b = 0 ∨ b2i b = 1 := by cases b <;> decide
section Lib
variable {l : Launch} {w : WD} {X : MD} {d : Nat} {Q : Option AV → AH → Prop} {pc : Nat} {ll : List (Option AV)} {st : List AV} {h : AH} {bc bs : Nat}
theorem Ex.lay (k : Lay h → Ex l w true X d Q pc ll st h bc bs) : Ex l w true X d Q pc ll st h bc bs := by
  intro p e R s m args below meth c H locs cells slots ls hCx hf hl hcl0 hsl0 hS hL hlen hva
  exact k (hS.2.2.2 rfl) p e R s m args below meth c H locs cells slots ls hCx hf hl hcl0 hsl0 hS hL hlen hva
theorem Ex.post {lm : Bool} {Q' : Option AV → AH → Prop} (hq : ∀ v h', Q' v h' → Q v h') (k : Ex l w lm X d Q' pc ll st h bc bs) : Ex l w lm X d Q pc ll st h bc bs := by
  intro p e R s m args below meth c H locs cells slots ls hCx hf hl hcl0 hsl0 hS hL hlen hva
  intro T hT XX
  obtain ⟨t, h1, o, h2, h3, ⟨v, h', g1, g2, g3⟩, h5⟩ := k p e R s m args below meth c H locs cells slots ls hCx hf hl hcl0 hsl0 hS hL hlen hva T hT XX
  exact ⟨t, h1, o, h2, h3, ⟨v, h', g1, hq v h' g2, g3⟩, h5⟩
end Lib
theorem hC_sI (h : AH) (f a : Nat) (v : Int32) : hC (sI h f a v) = hC h := rfl
theorem hC_sL (h : AH) (f a : Nat) (v : Int64) : hC (sL h f a v) = hC h := rfl
theorem hC_sR (h : AH) (f a : Nat) (v : Nat) : hC (sR h f a v) = hC h := rfl
theorem hC_tI (h : AH) (a : Nat) (v : List Int32) : hC (tI h a v) = hC h := rfl
theorem hC_tL (h : AH) (a : Nat) (v : List Int64) : hC (tL h a v) = hC h := rfl
theorem hC_tR (h : AH) (a : Nat) (v : List Nat) : hC (tR h a v) = hC h := rfl
theorem hI_sI (h : AH) (f a : Nat) (v : Int32) (g b : Nat) : hI (sI h f a v) g b = if g = f ∧ b = a then v else hI h g b := rfl
theorem hI_sL (h : AH) (f a : Nat) (v : Int64) : hI (sL h f a v) = hI h := rfl
theorem hI_sR (h : AH) (f a : Nat) (v : Nat) : hI (sR h f a v) = hI h := rfl
theorem hI_tI (h : AH) (a : Nat) (v : List Int32) : hI (tI h a v) = hI h := rfl
theorem hI_tL (h : AH) (a : Nat) (v : List Int64) : hI (tL h a v) = hI h := rfl
theorem hI_tR (h : AH) (a : Nat) (v : List Nat) : hI (tR h a v) = hI h := rfl
theorem hL_sI (h : AH) (f a : Nat) (v : Int32) : hL (sI h f a v) = hL h := rfl
theorem hL_sL (h : AH) (f a : Nat) (v : Int64) (g b : Nat) : hL (sL h f a v) g b = if g = f ∧ b = a then v else hL h g b := rfl
theorem hL_sR (h : AH) (f a : Nat) (v : Nat) : hL (sR h f a v) = hL h := rfl
theorem hL_tI (h : AH) (a : Nat) (v : List Int32) : hL (tI h a v) = hL h := rfl
theorem hL_tL (h : AH) (a : Nat) (v : List Int64) : hL (tL h a v) = hL h := rfl
theorem hL_tR (h : AH) (a : Nat) (v : List Nat) : hL (tR h a v) = hL h := rfl
theorem hR_sI (h : AH) (f a : Nat) (v : Int32) : hR (sI h f a v) = hR h := rfl
theorem hR_sL (h : AH) (f a : Nat) (v : Int64) : hR (sL h f a v) = hR h := rfl
theorem hR_sR (h : AH) (f a : Nat) (v : Nat) (g b : Nat) : hR (sR h f a v) g b = if g = f ∧ b = a then v else hR h g b := rfl
theorem hR_tI (h : AH) (a : Nat) (v : List Int32) : hR (tI h a v) = hR h := rfl
theorem hR_tL (h : AH) (a : Nat) (v : List Int64) : hR (tL h a v) = hR h := rfl
theorem hR_tR (h : AH) (a : Nat) (v : List Nat) : hR (tR h a v) = hR h := rfl
theorem aI_sI (h : AH) (f a : Nat) (v : Int32) : aI (sI h f a v) = aI h := rfl
theorem aI_sL (h : AH) (f a : Nat) (v : Int64) : aI (sL h f a v) = aI h := rfl
theorem aI_sR (h : AH) (f a : Nat) (v : Nat) : aI (sR h f a v) = aI h := rfl
theorem aI_tI (h : AH) (a : Nat) (v : List Int32) (b : Nat) : aI (tI h a v) b = if b = a then v else aI h b := rfl
theorem aI_tL (h : AH) (a : Nat) (v : List Int64) : aI (tL h a v) = aI h := rfl
theorem aI_tR (h : AH) (a : Nat) (v : List Nat) : aI (tR h a v) = aI h := rfl
theorem aL_sI (h : AH) (f a : Nat) (v : Int32) : aL (sI h f a v) = aL h := rfl
theorem aL_sL (h : AH) (f a : Nat) (v : Int64) : aL (sL h f a v) = aL h := rfl
theorem aL_sR (h : AH) (f a : Nat) (v : Nat) : aL (sR h f a v) = aL h := rfl
theorem aL_tI (h : AH) (a : Nat) (v : List Int32) : aL (tI h a v) = aL h := rfl
theorem aL_tL (h : AH) (a : Nat) (v : List Int64) (b : Nat) : aL (tL h a v) b = if b = a then v else aL h b := rfl
theorem aL_tR (h : AH) (a : Nat) (v : List Nat) : aL (tR h a v) = aL h := rfl
theorem aR_sI (h : AH) (f a : Nat) (v : Int32) : aR (sI h f a v) = aR h := rfl
theorem aR_sL (h : AH) (f a : Nat) (v : Int64) : aR (sL h f a v) = aR h := rfl
theorem aR_sR (h : AH) (f a : Nat) (v : Nat) : aR (sR h f a v) = aR h := rfl
theorem aR_tI (h : AH) (a : Nat) (v : List Int32) : aR (tI h a v) = aR h := rfl
theorem aR_tL (h : AH) (a : Nat) (v : List Int64) : aR (tL h a v) = aR h := rfl
theorem aR_tR (h : AH) (a : Nat) (v : List Nat) (b : Nat) : aR (tR h a v) b = if b = a then v else aR h b := rfl
theorem hZ_sI (h : AH) (f a : Nat) (v : Int32) : hZ (sI h f a v) = hZ h := rfl
theorem hZ_sL (h : AH) (f a : Nat) (v : Int64) : hZ (sL h f a v) = hZ h := rfl
theorem hZ_sR (h : AH) (f a : Nat) (v : Nat) : hZ (sR h f a v) = hZ h := rfl
theorem hZ_tI (h : AH) (a : Nat) (v : List Int32) : hZ (tI h a v) = hZ h := rfl
theorem hZ_tL (h : AH) (a : Nat) (v : List Int64) : hZ (tL h a v) = hZ h := rfl
theorem hZ_tR (h : AH) (a : Nat) (v : List Nat) : hZ (tR h a v) = hZ h := rfl
section Layout
variable {h : AH} {j : Int32} {k : Nat}
theorem ix_of {n k : Nat} {j : Int32} (hj : j = nI k) (hk : k < n) (hn : n < 2 ^ 31) : ixIn j n := by rw [hj]; exact nI_in hk hn
theorem yc32 (hy : Lay h) : hC h 32 = 10 := hy.2.1 (32, 10) (by decide)
theorem yc33 (hy : Lay h) : hC h 33 = 1 := hy.2.1 (33, 1) (by decide)
theorem yc34 (hy : Lay h) : hC h 34 = 1 := hy.2.1 (34, 1) (by decide)
theorem yc35 (hy : Lay h) : hC h 35 = 101 := hy.2.1 (35, 101) (by decide)
theorem yc36 (hy : Lay h) : hC h 36 = 8 := hy.2.1 (36, 8) (by decide)
theorem yc37 (hy : Lay h) : hC h 37 = 101 := hy.2.1 (37, 101) (by decide)
theorem yc38 (hy : Lay h) : hC h 38 = 9 := hy.2.1 (38, 9) (by decide)
theorem yc39 (hy : Lay h) : hC h 39 = 1 := hy.2.1 (39, 1) (by decide)
theorem yc40 (hy : Lay h) : hC h 40 = 101 := hy.2.1 (40, 101) (by decide)
theorem yc41 (hy : Lay h) : hC h 41 = 101 := hy.2.1 (41, 101) (by decide)
theorem yc42 (hy : Lay h) : hC h 42 = 5 := hy.2.1 (42, 5) (by decide)
theorem yc43 (hy : Lay h) : hC h 43 = 101 := hy.2.1 (43, 101) (by decide)
theorem yc44 (hy : Lay h) : hC h 44 = 101 := hy.2.1 (44, 101) (by decide)
theorem yc45 (hy : Lay h) : hC h 45 = 101 := hy.2.1 (45, 101) (by decide)
theorem yc46 (hy : Lay h) : hC h 46 = 101 := hy.2.1 (46, 101) (by decide)
theorem yc47 (hy : Lay h) : hC h 47 = 101 := hy.2.1 (47, 101) (by decide)
theorem yc48 (hy : Lay h) : hC h 48 = 101 := hy.2.1 (48, 101) (by decide)
theorem yc49 (hy : Lay h) : hC h 49 = 101 := hy.2.1 (49, 101) (by decide)
theorem yc50 (hy : Lay h) : hC h 50 = 101 := hy.2.1 (50, 101) (by decide)
theorem yc51 (hy : Lay h) : hC h 51 = 101 := hy.2.1 (51, 101) (by decide)
theorem yc52 (hy : Lay h) : hC h 52 = 2 := hy.2.1 (52, 2) (by decide)
theorem yc53 (hy : Lay h) : hC h 53 = 102 := hy.2.1 (53, 102) (by decide)
theorem yc54 (hy : Lay h) : hC h 54 = 7 := hy.2.1 (54, 7) (by decide)
theorem yc55 (hy : Lay h) : hC h 55 = 101 := hy.2.1 (55, 101) (by decide)
theorem yc56 (hy : Lay h) : hC h 56 = 7 := hy.2.1 (56, 7) (by decide)
theorem yc57 (hy : Lay h) : hC h 57 = 101 := hy.2.1 (57, 101) (by decide)
theorem yc58 (hy : Lay h) : hC h 58 = 6 := hy.2.1 (58, 6) (by decide)
theorem yc59 (hy : Lay h) : hC h 59 = 101 := hy.2.1 (59, 101) (by decide)
theorem yc60 (hy : Lay h) : hC h 60 = 101 := hy.2.1 (60, 101) (by decide)
theorem yc61 (hy : Lay h) : hC h 61 = 101 := hy.2.1 (61, 101) (by decide)
theorem yc62 (hy : Lay h) : hC h 62 = 11 := hy.2.1 (62, 11) (by decide)
theorem yc63 (hy : Lay h) : hC h 63 = 101 := hy.2.1 (63, 101) (by decide)
theorem yc64 (hy : Lay h) : hC h 64 = 101 := hy.2.1 (64, 101) (by decide)
theorem yc65 (hy : Lay h) : hC h 65 = 101 := hy.2.1 (65, 101) (by decide)
theorem yc66 (hy : Lay h) : hC h 66 = 101 := hy.2.1 (66, 101) (by decide)
theorem yc67 (hy : Lay h) : hC h 67 = 102 := hy.2.1 (67, 102) (by decide)
theorem yc68 (hy : Lay h) : hC h 68 = 101 := hy.2.1 (68, 101) (by decide)
theorem yc69 (hy : Lay h) : hC h 69 = 102 := hy.2.1 (69, 102) (by decide)
theorem yc70 (hy : Lay h) : hC h 70 = 103 := hy.2.1 (70, 103) (by decide)
theorem yc71 (hy : Lay h) : hC h 71 = 101 := hy.2.1 (71, 101) (by decide)
theorem yc72 (hy : Lay h) : hC h 72 = 101 := hy.2.1 (72, 101) (by decide)
theorem yc73 (hy : Lay h) : hC h 73 = 101 := hy.2.1 (73, 101) (by decide)
theorem yc74 (hy : Lay h) : hC h 74 = 103 := hy.2.1 (74, 103) (by decide)
theorem yc75 (hy : Lay h) : hC h 75 = 101 := hy.2.1 (75, 101) (by decide)
theorem yc76 (hy : Lay h) : hC h 76 = 101 := hy.2.1 (76, 101) (by decide)
theorem yc77 (hy : Lay h) : hC h 77 = 101 := hy.2.1 (77, 101) (by decide)
theorem yc78 (hy : Lay h) : hC h 78 = 101 := hy.2.1 (78, 101) (by decide)
theorem yc79 (hy : Lay h) : hC h 79 = 101 := hy.2.1 (79, 101) (by decide)
theorem yc80 (hy : Lay h) : hC h 80 = 101 := hy.2.1 (80, 101) (by decide)
theorem yc81 (hy : Lay h) : hC h 81 = 101 := hy.2.1 (81, 101) (by decide)
theorem yc82 (hy : Lay h) : hC h 82 = 101 := hy.2.1 (82, 101) (by decide)
theorem yc83 (hy : Lay h) : hC h 83 = 101 := hy.2.1 (83, 101) (by decide)
theorem yc84 (hy : Lay h) : hC h 84 = 101 := hy.2.1 (84, 101) (by decide)
theorem yc85 (hy : Lay h) : hC h 85 = 101 := hy.2.1 (85, 101) (by decide)
theorem yc86 (hy : Lay h) : hC h 86 = 101 := hy.2.1 (86, 101) (by decide)
theorem yc87 (hy : Lay h) : hC h 87 = 101 := hy.2.1 (87, 101) (by decide)
theorem yr576_32 (hy : Lay h) : hR h 576 32 = 33 := hy.2.2.1 (576, 32, 33) (by decide)
theorem yr577_32 (hy : Lay h) : hR h 577 32 = 34 := hy.2.2.1 (577, 32, 34) (by decide)
theorem yr578_32 (hy : Lay h) : hR h 578 32 = 35 := hy.2.2.1 (578, 32, 35) (by decide)
theorem yr579_32 (hy : Lay h) : hR h 579 32 = 36 := hy.2.2.1 (579, 32, 36) (by decide)
theorem yr448_36 (hy : Lay h) : hR h 448 36 = 37 := hy.2.2.1 (448, 36, 37) (by decide)
theorem yr580_32 (hy : Lay h) : hR h 580 32 = 38 := hy.2.2.1 (580, 32, 38) (by decide)
theorem yr512_38 (hy : Lay h) : hR h 512 38 = 39 := hy.2.2.1 (512, 38, 39) (by decide)
theorem yr513_38 (hy : Lay h) : hR h 513 38 = 40 := hy.2.2.1 (513, 38, 40) (by decide)
theorem yr514_38 (hy : Lay h) : hR h 514 38 = 41 := hy.2.2.1 (514, 38, 41) (by decide)
theorem yr581_32 (hy : Lay h) : hR h 581 32 = 42 := hy.2.2.1 (581, 32, 42) (by decide)
theorem yr256_42 (hy : Lay h) : hR h 256 42 = 43 := hy.2.2.1 (256, 42, 43) (by decide)
theorem yr257_42 (hy : Lay h) : hR h 257 42 = 44 := hy.2.2.1 (257, 42, 44) (by decide)
theorem yr258_42 (hy : Lay h) : hR h 258 42 = 45 := hy.2.2.1 (258, 42, 45) (by decide)
theorem yr259_42 (hy : Lay h) : hR h 259 42 = 46 := hy.2.2.1 (259, 42, 46) (by decide)
theorem yr260_42 (hy : Lay h) : hR h 260 42 = 47 := hy.2.2.1 (260, 42, 47) (by decide)
theorem yr261_42 (hy : Lay h) : hR h 261 42 = 48 := hy.2.2.1 (261, 42, 48) (by decide)
theorem yr262_42 (hy : Lay h) : hR h 262 42 = 49 := hy.2.2.1 (262, 42, 49) (by decide)
theorem yr263_42 (hy : Lay h) : hR h 263 42 = 50 := hy.2.2.1 (263, 42, 50) (by decide)
theorem yr264_42 (hy : Lay h) : hR h 264 42 = 51 := hy.2.2.1 (264, 42, 51) (by decide)
theorem yr582_32 (hy : Lay h) : hR h 582 32 = 52 := hy.2.2.1 (582, 32, 52) (by decide)
theorem yr64_52 (hy : Lay h) : hR h 64 52 = 53 := hy.2.2.1 (64, 52, 53) (by decide)
theorem yr384_54 (hy : Lay h) : hR h 384 54 = 55 := hy.2.2.1 (384, 54, 55) (by decide)
theorem yr384_56 (hy : Lay h) : hR h 384 56 = 57 := hy.2.2.1 (384, 56, 57) (by decide)
theorem yr320_58 (hy : Lay h) : hR h 320 58 = 59 := hy.2.2.1 (320, 58, 59) (by decide)
theorem yr321_58 (hy : Lay h) : hR h 321 58 = 60 := hy.2.2.1 (321, 58, 60) (by decide)
theorem yr322_58 (hy : Lay h) : hR h 322 58 = 61 := hy.2.2.1 (322, 58, 61) (by decide)
theorem yr642_62 (hy : Lay h) : hR h 642 62 = 63 := hy.2.2.1 (642, 62, 63) (by decide)
theorem yr644_62 (hy : Lay h) : hR h 644 62 = 64 := hy.2.2.1 (644, 62, 64) (by decide)
theorem yr645_62 (hy : Lay h) : hR h 645 62 = 65 := hy.2.2.1 (645, 62, 65) (by decide)
theorem yr646_62 (hy : Lay h) : hR h 646 62 = 66 := hy.2.2.1 (646, 62, 66) (by decide)
theorem yr647_62 (hy : Lay h) : hR h 647 62 = 67 := hy.2.2.1 (647, 62, 67) (by decide)
theorem yr648_62 (hy : Lay h) : hR h 648 62 = 68 := hy.2.2.1 (648, 62, 68) (by decide)
theorem yr649_62 (hy : Lay h) : hR h 649 62 = 69 := hy.2.2.1 (649, 62, 69) (by decide)
theorem yr650_62 (hy : Lay h) : hR h 650 62 = 70 := hy.2.2.1 (650, 62, 70) (by decide)
theorem yr651_62 (hy : Lay h) : hR h 651 62 = 71 := hy.2.2.1 (651, 62, 71) (by decide)
theorem yr655_62 (hy : Lay h) : hR h 655 62 = 72 := hy.2.2.1 (655, 62, 72) (by decide)
theorem yr657_62 (hy : Lay h) : hR h 657 62 = 73 := hy.2.2.1 (657, 62, 73) (by decide)
theorem yr664_62 (hy : Lay h) : hR h 664 62 = 74 := hy.2.2.1 (664, 62, 74) (by decide)
theorem yr665_62 (hy : Lay h) : hR h 665 62 = 75 := hy.2.2.1 (665, 62, 75) (by decide)
theorem yr670_62 (hy : Lay h) : hR h 670 62 = 76 := hy.2.2.1 (670, 62, 76) (by decide)
theorem yr671_62 (hy : Lay h) : hR h 671 62 = 77 := hy.2.2.1 (671, 62, 77) (by decide)
theorem yr672_62 (hy : Lay h) : hR h 672 62 = 78 := hy.2.2.1 (672, 62, 78) (by decide)
theorem yr673_62 (hy : Lay h) : hR h 673 62 = 79 := hy.2.2.1 (673, 62, 79) (by decide)
theorem yr674_62 (hy : Lay h) : hR h 674 62 = 80 := hy.2.2.1 (674, 62, 80) (by decide)
theorem yr675_62 (hy : Lay h) : hR h 675 62 = 81 := hy.2.2.1 (675, 62, 81) (by decide)
theorem yr676_62 (hy : Lay h) : hR h 676 62 = 82 := hy.2.2.1 (676, 62, 82) (by decide)
theorem yr678_62 (hy : Lay h) : hR h 678 62 = 83 := hy.2.2.1 (678, 62, 83) (by decide)
theorem yr685_62 (hy : Lay h) : hR h 685 62 = 84 := hy.2.2.1 (685, 62, 84) (by decide)
theorem yr686_62 (hy : Lay h) : hR h 686 62 = 85 := hy.2.2.1 (686, 62, 85) (by decide)
theorem yr688_62 (hy : Lay h) : hR h 688 62 = 86 := hy.2.2.1 (688, 62, 86) (by decide)
theorem yr689_62 (hy : Lay h) : hR h 689 62 = 87 := hy.2.2.1 (689, 62, 87) (by decide)
theorem yn35 (hy : Lay h) : (aI h 35).length = 6 := hy.2.2.2.1 (35, 6) (by decide)
theorem ix35 (hy : Lay h) (hj : j = nI k) (hk : k < 6) : ixI h 35 j := ⟨Or.inl (yc35 hy), by rw [yn35 hy]; exact ix_of hj hk (by decide)⟩
theorem jx35 (hy : Lay h) (hj : j = nI k) (hk : k < 6) : jxI h 35 j := ⟨yc35 hy, by rw [yn35 hy]; exact ix_of hj hk (by decide)⟩
theorem yn37 (hy : Lay h) : (aI h 37).length = 200 := hy.2.2.2.1 (37, 200) (by decide)
theorem ix37 (hy : Lay h) (hj : j = nI k) (hk : k < 200) : ixI h 37 j := ⟨Or.inl (yc37 hy), by rw [yn37 hy]; exact ix_of hj hk (by decide)⟩
theorem jx37 (hy : Lay h) (hj : j = nI k) (hk : k < 200) : jxI h 37 j := ⟨yc37 hy, by rw [yn37 hy]; exact ix_of hj hk (by decide)⟩
theorem yn40 (hy : Lay h) : (aI h 40).length = 8 := hy.2.2.2.1 (40, 8) (by decide)
theorem ix40 (hy : Lay h) (hj : j = nI k) (hk : k < 8) : ixI h 40 j := ⟨Or.inl (yc40 hy), by rw [yn40 hy]; exact ix_of hj hk (by decide)⟩
theorem jx40 (hy : Lay h) (hj : j = nI k) (hk : k < 8) : jxI h 40 j := ⟨yc40 hy, by rw [yn40 hy]; exact ix_of hj hk (by decide)⟩
theorem yn41 (hy : Lay h) : (aI h 41).length = 8 := hy.2.2.2.1 (41, 8) (by decide)
theorem ix41 (hy : Lay h) (hj : j = nI k) (hk : k < 8) : ixI h 41 j := ⟨Or.inl (yc41 hy), by rw [yn41 hy]; exact ix_of hj hk (by decide)⟩
theorem jx41 (hy : Lay h) (hj : j = nI k) (hk : k < 8) : jxI h 41 j := ⟨yc41 hy, by rw [yn41 hy]; exact ix_of hj hk (by decide)⟩
theorem yn43 (hy : Lay h) : (aI h 43).length = 7 := hy.2.2.2.1 (43, 7) (by decide)
theorem ix43 (hy : Lay h) (hj : j = nI k) (hk : k < 7) : ixI h 43 j := ⟨Or.inl (yc43 hy), by rw [yn43 hy]; exact ix_of hj hk (by decide)⟩
theorem jx43 (hy : Lay h) (hj : j = nI k) (hk : k < 7) : jxI h 43 j := ⟨yc43 hy, by rw [yn43 hy]; exact ix_of hj hk (by decide)⟩
theorem yn44 (hy : Lay h) : (aI h 44).length = 7 := hy.2.2.2.1 (44, 7) (by decide)
theorem ix44 (hy : Lay h) (hj : j = nI k) (hk : k < 7) : ixI h 44 j := ⟨Or.inl (yc44 hy), by rw [yn44 hy]; exact ix_of hj hk (by decide)⟩
theorem jx44 (hy : Lay h) (hj : j = nI k) (hk : k < 7) : jxI h 44 j := ⟨yc44 hy, by rw [yn44 hy]; exact ix_of hj hk (by decide)⟩
theorem yn45 (hy : Lay h) : (aI h 45).length = 7 := hy.2.2.2.1 (45, 7) (by decide)
theorem ix45 (hy : Lay h) (hj : j = nI k) (hk : k < 7) : ixI h 45 j := ⟨Or.inl (yc45 hy), by rw [yn45 hy]; exact ix_of hj hk (by decide)⟩
theorem jx45 (hy : Lay h) (hj : j = nI k) (hk : k < 7) : jxI h 45 j := ⟨yc45 hy, by rw [yn45 hy]; exact ix_of hj hk (by decide)⟩
theorem yn46 (hy : Lay h) : (aI h 46).length = 7 := hy.2.2.2.1 (46, 7) (by decide)
theorem ix46 (hy : Lay h) (hj : j = nI k) (hk : k < 7) : ixI h 46 j := ⟨Or.inl (yc46 hy), by rw [yn46 hy]; exact ix_of hj hk (by decide)⟩
theorem jx46 (hy : Lay h) (hj : j = nI k) (hk : k < 7) : jxI h 46 j := ⟨yc46 hy, by rw [yn46 hy]; exact ix_of hj hk (by decide)⟩
theorem yn47 (hy : Lay h) : (aI h 47).length = 6 := hy.2.2.2.1 (47, 6) (by decide)
theorem ix47 (hy : Lay h) (hj : j = nI k) (hk : k < 6) : ixI h 47 j := ⟨Or.inl (yc47 hy), by rw [yn47 hy]; exact ix_of hj hk (by decide)⟩
theorem jx47 (hy : Lay h) (hj : j = nI k) (hk : k < 6) : jxI h 47 j := ⟨yc47 hy, by rw [yn47 hy]; exact ix_of hj hk (by decide)⟩
theorem yn48 (hy : Lay h) : (aI h 48).length = 6 := hy.2.2.2.1 (48, 6) (by decide)
theorem ix48 (hy : Lay h) (hj : j = nI k) (hk : k < 6) : ixI h 48 j := ⟨Or.inl (yc48 hy), by rw [yn48 hy]; exact ix_of hj hk (by decide)⟩
theorem jx48 (hy : Lay h) (hj : j = nI k) (hk : k < 6) : jxI h 48 j := ⟨yc48 hy, by rw [yn48 hy]; exact ix_of hj hk (by decide)⟩
theorem yn49 (hy : Lay h) : (aI h 49).length = 6 := hy.2.2.2.1 (49, 6) (by decide)
theorem ix49 (hy : Lay h) (hj : j = nI k) (hk : k < 6) : ixI h 49 j := ⟨Or.inl (yc49 hy), by rw [yn49 hy]; exact ix_of hj hk (by decide)⟩
theorem jx49 (hy : Lay h) (hj : j = nI k) (hk : k < 6) : jxI h 49 j := ⟨yc49 hy, by rw [yn49 hy]; exact ix_of hj hk (by decide)⟩
theorem yn50 (hy : Lay h) : (aI h 50).length = 12 := hy.2.2.2.1 (50, 12) (by decide)
theorem ix50 (hy : Lay h) (hj : j = nI k) (hk : k < 12) : ixI h 50 j := ⟨Or.inl (yc50 hy), by rw [yn50 hy]; exact ix_of hj hk (by decide)⟩
theorem jx50 (hy : Lay h) (hj : j = nI k) (hk : k < 12) : jxI h 50 j := ⟨yc50 hy, by rw [yn50 hy]; exact ix_of hj hk (by decide)⟩
theorem yn51 (hy : Lay h) : (aI h 51).length = 12 := hy.2.2.2.1 (51, 12) (by decide)
theorem ix51 (hy : Lay h) (hj : j = nI k) (hk : k < 12) : ixI h 51 j := ⟨Or.inl (yc51 hy), by rw [yn51 hy]; exact ix_of hj hk (by decide)⟩
theorem jx51 (hy : Lay h) (hj : j = nI k) (hk : k < 12) : jxI h 51 j := ⟨yc51 hy, by rw [yn51 hy]; exact ix_of hj hk (by decide)⟩
theorem yn55 (hy : Lay h) : (aI h 55).length = 6 := hy.2.2.2.1 (55, 6) (by decide)
theorem ix55 (hy : Lay h) (hj : j = nI k) (hk : k < 6) : ixI h 55 j := ⟨Or.inl (yc55 hy), by rw [yn55 hy]; exact ix_of hj hk (by decide)⟩
theorem jx55 (hy : Lay h) (hj : j = nI k) (hk : k < 6) : jxI h 55 j := ⟨yc55 hy, by rw [yn55 hy]; exact ix_of hj hk (by decide)⟩
theorem yn57 (hy : Lay h) : (aI h 57).length = 6 := hy.2.2.2.1 (57, 6) (by decide)
theorem ix57 (hy : Lay h) (hj : j = nI k) (hk : k < 6) : ixI h 57 j := ⟨Or.inl (yc57 hy), by rw [yn57 hy]; exact ix_of hj hk (by decide)⟩
theorem jx57 (hy : Lay h) (hj : j = nI k) (hk : k < 6) : jxI h 57 j := ⟨yc57 hy, by rw [yn57 hy]; exact ix_of hj hk (by decide)⟩
theorem yn59 (hy : Lay h) : (aI h 59).length = 8 := hy.2.2.2.1 (59, 8) (by decide)
theorem ix59 (hy : Lay h) (hj : j = nI k) (hk : k < 8) : ixI h 59 j := ⟨Or.inl (yc59 hy), by rw [yn59 hy]; exact ix_of hj hk (by decide)⟩
theorem jx59 (hy : Lay h) (hj : j = nI k) (hk : k < 8) : jxI h 59 j := ⟨yc59 hy, by rw [yn59 hy]; exact ix_of hj hk (by decide)⟩
theorem yn60 (hy : Lay h) : (aI h 60).length = 8 := hy.2.2.2.1 (60, 8) (by decide)
theorem ix60 (hy : Lay h) (hj : j = nI k) (hk : k < 8) : ixI h 60 j := ⟨Or.inl (yc60 hy), by rw [yn60 hy]; exact ix_of hj hk (by decide)⟩
theorem jx60 (hy : Lay h) (hj : j = nI k) (hk : k < 8) : jxI h 60 j := ⟨yc60 hy, by rw [yn60 hy]; exact ix_of hj hk (by decide)⟩
theorem yn61 (hy : Lay h) : (aI h 61).length = 8 := hy.2.2.2.1 (61, 8) (by decide)
theorem ix61 (hy : Lay h) (hj : j = nI k) (hk : k < 8) : ixI h 61 j := ⟨Or.inl (yc61 hy), by rw [yn61 hy]; exact ix_of hj hk (by decide)⟩
theorem jx61 (hy : Lay h) (hj : j = nI k) (hk : k < 8) : jxI h 61 j := ⟨yc61 hy, by rw [yn61 hy]; exact ix_of hj hk (by decide)⟩
theorem yn63 (hy : Lay h) : (aI h 63).length = 12 := hy.2.2.2.1 (63, 12) (by decide)
theorem ix63 (hy : Lay h) (hj : j = nI k) (hk : k < 12) : ixI h 63 j := ⟨Or.inl (yc63 hy), by rw [yn63 hy]; exact ix_of hj hk (by decide)⟩
theorem jx63 (hy : Lay h) (hj : j = nI k) (hk : k < 12) : jxI h 63 j := ⟨yc63 hy, by rw [yn63 hy]; exact ix_of hj hk (by decide)⟩
theorem yn64 (hy : Lay h) : (aI h 64).length = 100 := hy.2.2.2.1 (64, 100) (by decide)
theorem ix64 (hy : Lay h) (hj : j = nI k) (hk : k < 100) : ixI h 64 j := ⟨Or.inl (yc64 hy), by rw [yn64 hy]; exact ix_of hj hk (by decide)⟩
theorem jx64 (hy : Lay h) (hj : j = nI k) (hk : k < 100) : jxI h 64 j := ⟨yc64 hy, by rw [yn64 hy]; exact ix_of hj hk (by decide)⟩
theorem yn65 (hy : Lay h) : (aI h 65).length = 100 := hy.2.2.2.1 (65, 100) (by decide)
theorem ix65 (hy : Lay h) (hj : j = nI k) (hk : k < 100) : ixI h 65 j := ⟨Or.inl (yc65 hy), by rw [yn65 hy]; exact ix_of hj hk (by decide)⟩
theorem jx65 (hy : Lay h) (hj : j = nI k) (hk : k < 100) : jxI h 65 j := ⟨yc65 hy, by rw [yn65 hy]; exact ix_of hj hk (by decide)⟩
theorem yn66 (hy : Lay h) : (aI h 66).length = 100 := hy.2.2.2.1 (66, 100) (by decide)
theorem ix66 (hy : Lay h) (hj : j = nI k) (hk : k < 100) : ixI h 66 j := ⟨Or.inl (yc66 hy), by rw [yn66 hy]; exact ix_of hj hk (by decide)⟩
theorem jx66 (hy : Lay h) (hj : j = nI k) (hk : k < 100) : jxI h 66 j := ⟨yc66 hy, by rw [yn66 hy]; exact ix_of hj hk (by decide)⟩
theorem yn68 (hy : Lay h) : (aI h 68).length = 100 := hy.2.2.2.1 (68, 100) (by decide)
theorem ix68 (hy : Lay h) (hj : j = nI k) (hk : k < 100) : ixI h 68 j := ⟨Or.inl (yc68 hy), by rw [yn68 hy]; exact ix_of hj hk (by decide)⟩
theorem jx68 (hy : Lay h) (hj : j = nI k) (hk : k < 100) : jxI h 68 j := ⟨yc68 hy, by rw [yn68 hy]; exact ix_of hj hk (by decide)⟩
theorem yn70 (hy : Lay h) : (aI h 70).length = 6 := hy.2.2.2.1 (70, 6) (by decide)
theorem ix70 (hy : Lay h) (hj : j = nI k) (hk : k < 6) : ixZ h 70 j := ⟨Or.inl (yc70 hy), by rw [yn70 hy]; exact ix_of hj hk (by decide)⟩
theorem jx70 (hy : Lay h) (hj : j = nI k) (hk : k < 6) : jxZ h 70 j := ⟨yc70 hy, by rw [yn70 hy]; exact ix_of hj hk (by decide)⟩
theorem yn71 (hy : Lay h) : (aI h 71).length = 6 := hy.2.2.2.1 (71, 6) (by decide)
theorem ix71 (hy : Lay h) (hj : j = nI k) (hk : k < 6) : ixI h 71 j := ⟨Or.inl (yc71 hy), by rw [yn71 hy]; exact ix_of hj hk (by decide)⟩
theorem jx71 (hy : Lay h) (hj : j = nI k) (hk : k < 6) : jxI h 71 j := ⟨yc71 hy, by rw [yn71 hy]; exact ix_of hj hk (by decide)⟩
theorem yn72 (hy : Lay h) : (aI h 72).length = 100 := hy.2.2.2.1 (72, 100) (by decide)
theorem ix72 (hy : Lay h) (hj : j = nI k) (hk : k < 100) : ixI h 72 j := ⟨Or.inl (yc72 hy), by rw [yn72 hy]; exact ix_of hj hk (by decide)⟩
theorem jx72 (hy : Lay h) (hj : j = nI k) (hk : k < 100) : jxI h 72 j := ⟨yc72 hy, by rw [yn72 hy]; exact ix_of hj hk (by decide)⟩
theorem yn73 (hy : Lay h) : (aI h 73).length = 200 := hy.2.2.2.1 (73, 200) (by decide)
theorem ix73 (hy : Lay h) (hj : j = nI k) (hk : k < 200) : ixI h 73 j := ⟨Or.inl (yc73 hy), by rw [yn73 hy]; exact ix_of hj hk (by decide)⟩
theorem jx73 (hy : Lay h) (hj : j = nI k) (hk : k < 200) : jxI h 73 j := ⟨yc73 hy, by rw [yn73 hy]; exact ix_of hj hk (by decide)⟩
theorem yn74 (hy : Lay h) : (aI h 74).length = 6 := hy.2.2.2.1 (74, 6) (by decide)
theorem ix74 (hy : Lay h) (hj : j = nI k) (hk : k < 6) : ixZ h 74 j := ⟨Or.inl (yc74 hy), by rw [yn74 hy]; exact ix_of hj hk (by decide)⟩
theorem jx74 (hy : Lay h) (hj : j = nI k) (hk : k < 6) : jxZ h 74 j := ⟨yc74 hy, by rw [yn74 hy]; exact ix_of hj hk (by decide)⟩
theorem yn75 (hy : Lay h) : (aI h 75).length = 6 := hy.2.2.2.1 (75, 6) (by decide)
theorem ix75 (hy : Lay h) (hj : j = nI k) (hk : k < 6) : ixI h 75 j := ⟨Or.inl (yc75 hy), by rw [yn75 hy]; exact ix_of hj hk (by decide)⟩
theorem jx75 (hy : Lay h) (hj : j = nI k) (hk : k < 6) : jxI h 75 j := ⟨yc75 hy, by rw [yn75 hy]; exact ix_of hj hk (by decide)⟩
theorem yn76 (hy : Lay h) : (aI h 76).length = 12 := hy.2.2.2.1 (76, 12) (by decide)
theorem ix76 (hy : Lay h) (hj : j = nI k) (hk : k < 12) : ixI h 76 j := ⟨Or.inl (yc76 hy), by rw [yn76 hy]; exact ix_of hj hk (by decide)⟩
theorem jx76 (hy : Lay h) (hj : j = nI k) (hk : k < 12) : jxI h 76 j := ⟨yc76 hy, by rw [yn76 hy]; exact ix_of hj hk (by decide)⟩
theorem yn77 (hy : Lay h) : (aI h 77).length = 96 := hy.2.2.2.1 (77, 96) (by decide)
theorem ix77 (hy : Lay h) (hj : j = nI k) (hk : k < 96) : ixI h 77 j := ⟨Or.inl (yc77 hy), by rw [yn77 hy]; exact ix_of hj hk (by decide)⟩
theorem jx77 (hy : Lay h) (hj : j = nI k) (hk : k < 96) : jxI h 77 j := ⟨yc77 hy, by rw [yn77 hy]; exact ix_of hj hk (by decide)⟩
theorem yn78 (hy : Lay h) : (aI h 78).length = 96 := hy.2.2.2.1 (78, 96) (by decide)
theorem ix78 (hy : Lay h) (hj : j = nI k) (hk : k < 96) : ixI h 78 j := ⟨Or.inl (yc78 hy), by rw [yn78 hy]; exact ix_of hj hk (by decide)⟩
theorem jx78 (hy : Lay h) (hj : j = nI k) (hk : k < 96) : jxI h 78 j := ⟨yc78 hy, by rw [yn78 hy]; exact ix_of hj hk (by decide)⟩
theorem yn79 (hy : Lay h) : (aI h 79).length = 96 := hy.2.2.2.1 (79, 96) (by decide)
theorem ix79 (hy : Lay h) (hj : j = nI k) (hk : k < 96) : ixI h 79 j := ⟨Or.inl (yc79 hy), by rw [yn79 hy]; exact ix_of hj hk (by decide)⟩
theorem jx79 (hy : Lay h) (hj : j = nI k) (hk : k < 96) : jxI h 79 j := ⟨yc79 hy, by rw [yn79 hy]; exact ix_of hj hk (by decide)⟩
theorem yn80 (hy : Lay h) : (aI h 80).length = 8 := hy.2.2.2.1 (80, 8) (by decide)
theorem ix80 (hy : Lay h) (hj : j = nI k) (hk : k < 8) : ixI h 80 j := ⟨Or.inl (yc80 hy), by rw [yn80 hy]; exact ix_of hj hk (by decide)⟩
theorem jx80 (hy : Lay h) (hj : j = nI k) (hk : k < 8) : jxI h 80 j := ⟨yc80 hy, by rw [yn80 hy]; exact ix_of hj hk (by decide)⟩
theorem yn81 (hy : Lay h) : (aI h 81).length = 8 := hy.2.2.2.1 (81, 8) (by decide)
theorem ix81 (hy : Lay h) (hj : j = nI k) (hk : k < 8) : ixI h 81 j := ⟨Or.inl (yc81 hy), by rw [yn81 hy]; exact ix_of hj hk (by decide)⟩
theorem jx81 (hy : Lay h) (hj : j = nI k) (hk : k < 8) : jxI h 81 j := ⟨yc81 hy, by rw [yn81 hy]; exact ix_of hj hk (by decide)⟩
theorem yn82 (hy : Lay h) : (aI h 82).length = 8 := hy.2.2.2.1 (82, 8) (by decide)
theorem ix82 (hy : Lay h) (hj : j = nI k) (hk : k < 8) : ixI h 82 j := ⟨Or.inl (yc82 hy), by rw [yn82 hy]; exact ix_of hj hk (by decide)⟩
theorem jx82 (hy : Lay h) (hj : j = nI k) (hk : k < 8) : jxI h 82 j := ⟨yc82 hy, by rw [yn82 hy]; exact ix_of hj hk (by decide)⟩
theorem yn83 (hy : Lay h) : (aI h 83).length = 8 := hy.2.2.2.1 (83, 8) (by decide)
theorem ix83 (hy : Lay h) (hj : j = nI k) (hk : k < 8) : ixI h 83 j := ⟨Or.inl (yc83 hy), by rw [yn83 hy]; exact ix_of hj hk (by decide)⟩
theorem jx83 (hy : Lay h) (hj : j = nI k) (hk : k < 8) : jxI h 83 j := ⟨yc83 hy, by rw [yn83 hy]; exact ix_of hj hk (by decide)⟩
theorem yn84 (hy : Lay h) : (aI h 84).length = 7 := hy.2.2.2.1 (84, 7) (by decide)
theorem ix84 (hy : Lay h) (hj : j = nI k) (hk : k < 7) : ixI h 84 j := ⟨Or.inl (yc84 hy), by rw [yn84 hy]; exact ix_of hj hk (by decide)⟩
theorem jx84 (hy : Lay h) (hj : j = nI k) (hk : k < 7) : jxI h 84 j := ⟨yc84 hy, by rw [yn84 hy]; exact ix_of hj hk (by decide)⟩
theorem yn85 (hy : Lay h) : (aI h 85).length = 7 := hy.2.2.2.1 (85, 7) (by decide)
theorem ix85 (hy : Lay h) (hj : j = nI k) (hk : k < 7) : ixI h 85 j := ⟨Or.inl (yc85 hy), by rw [yn85 hy]; exact ix_of hj hk (by decide)⟩
theorem jx85 (hy : Lay h) (hj : j = nI k) (hk : k < 7) : jxI h 85 j := ⟨yc85 hy, by rw [yn85 hy]; exact ix_of hj hk (by decide)⟩
theorem yn86 (hy : Lay h) : (aI h 86).length = 12 := hy.2.2.2.1 (86, 12) (by decide)
theorem ix86 (hy : Lay h) (hj : j = nI k) (hk : k < 12) : ixI h 86 j := ⟨Or.inl (yc86 hy), by rw [yn86 hy]; exact ix_of hj hk (by decide)⟩
theorem jx86 (hy : Lay h) (hj : j = nI k) (hk : k < 12) : jxI h 86 j := ⟨yc86 hy, by rw [yn86 hy]; exact ix_of hj hk (by decide)⟩
theorem yn87 (hy : Lay h) : (aI h 87).length = 12 := hy.2.2.2.1 (87, 12) (by decide)
theorem ix87 (hy : Lay h) (hj : j = nI k) (hk : k < 12) : ixI h 87 j := ⟨Or.inl (yc87 hy), by rw [yn87 hy]; exact ix_of hj hk (by decide)⟩
theorem jx87 (hy : Lay h) (hj : j = nI k) (hk : k < 12) : jxI h 87 j := ⟨yc87 hy, by rw [yn87 hy]; exact ix_of hj hk (by decide)⟩
theorem yn53 (hy : Lay h) : (aL h 53).length = 3 := hy.2.2.2.2 (53, 3) (by decide)
theorem ix53 (hy : Lay h) (hj : j = nI k) (hk : k < 3) : ixL h 53 j := ⟨yc53 hy, by rw [yn53 hy]; exact ix_of hj hk (by decide)⟩
theorem yn67 (hy : Lay h) : (aL h 67).length = 100 := hy.2.2.2.2 (67, 100) (by decide)
theorem ix67 (hy : Lay h) (hj : j = nI k) (hk : k < 100) : ixL h 67 j := ⟨yc67 hy, by rw [yn67 hy]; exact ix_of hj hk (by decide)⟩
theorem yn69 (hy : Lay h) : (aL h 69).length = 3 := hy.2.2.2.2 (69, 3) (by decide)
theorem ix69 (hy : Lay h) (hj : j = nI k) (hk : k < 3) : ixL h 69 j := ⟨yc69 hy, by rw [yn69 hy]; exact ix_of hj hk (by decide)⟩
end Layout
