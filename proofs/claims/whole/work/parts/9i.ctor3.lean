/-! ===== the reference is made ===== -/
def kn0 : TB := tbN kkE 11 [640, 641, 642, 643, 644, 645, 646, 647, 648, 649, 650, 651, 652, 653, 654, 655, 656, 657, 658, 659, 660, 661, 662, 663, 664, 665, 666, 667, 668, 669, 670, 671, 672, 673, 674, 675, 676, 677, 678, 679, 680, 681, 682, 683, 684, 685, 686, 687, 688, 689] [654, 668]
def kn1 : TB := tbA kn0 642 62 12
def kn2 : TB := tbA kn1 644 62 100
def kn3 : TB := tbA kn2 645 62 100
def kn4 : TB := tbA kn3 646 62 100
def kn5 : TB := tbB kn4 647 62 100
def kn6 : TB := tbA kn5 648 62 100
def kn7 : TB := tbB kn6 649 62 3
def kn8 : TB := tbZ kn7 650 62 6
def kn9 : TB := tbA kn8 651 62 6
def kn10 : TB := tbA kn9 655 62 100
def kn11 : TB := tbA kn10 657 62 200
def kn12 : TB := tbS kn11 661 62 (-1)
def kn13 : TB := tbZ kn12 664 62 6
def kn14 : TB := tbA kn13 665 62 6
def kn15 : TB := tbA kn14 670 62 12
def kn16 : TB := tbA kn15 671 62 96
def kn17 : TB := tbA kn16 672 62 96
def kn18 : TB := tbA kn17 673 62 96
def kn19 : TB := tbA kn18 674 62 8
def kn20 : TB := tbA kn19 675 62 8
def kn21 : TB := tbA kn20 676 62 8
def kn22 : TB := tbA kn21 678 62 8
def kn23 : TB := tbA kn22 685 62 7
def kn24 : TB := tbA kn23 686 62 7
def kn25 : TB := tbA kn24 688 62 12
def kn26 : TB := tbA kn25 689 62 12
def knE : TB := kn26
def S9 : SG := (0, [], [], [0, 0, 0], ([0, 0, 0, 0, 0, 0], [0, 0, 0, 0, 0, 0], 0, 0, 0), [], -1, List.replicate 12 [], [])
def S0 : SG := (0, [], [], [0, 0, 0], rt0, [], -1, List.replicate 12 [], [])
theorem kn_lay {h0 h : AH} (x : Tok h0 knE h) : Lay h := by
  refine ⟨?_, fun q hq => ?_, fun q hq => ?_, fun q hq => ?_, fun q hq => ?_⟩
  · rw [x.1]; decide +kernel
  · exact x.c ((by decide +kernel : ∀ q ∈ layC, (q.1, q.2) ∈ knE.2.1) q hq)
  · exact x.r ((by decide +kernel : ∀ q ∈ layR, (q.1, q.2.1, q.2.2) ∈ knE.2.2.2.2.1) q hq)
  · obtain ⟨v, e1, e2⟩ := (by decide +kernel : ∀ q ∈ layI, ∃ v ∈ knE.2.2.2.2.2.1, v.1 = q.1 ∧ v.2.length = q.2) q hq
    rw [← e2.1, (x.2.2.2.2.2.2.2.1 v e1).2]; exact e2.2
  · obtain ⟨v, e1, e2⟩ := (by decide +kernel : ∀ q ∈ layJ, ∃ v ∈ knE.2.2.2.2.2.2, v.1 = q.1 ∧ v.2.length = q.2) q hq
    rw [← e2.1, (x.2.2.2.2.2.2.2.2 v e1).2]; exact e2.2
theorem kn_rm {h0 h : AH} (x : Tok h0 knE h) : RM (sFl S9 (-1)) h := by
  refine ⟨x.i (by decide +kernel), ⟨x.i (by decide +kernel), by decide, fun i hi => absurd hi (Nat.not_lt_zero _)⟩, ⟨x.i (by decide +kernel), by decide, fun i hi => absurd hi (Nat.not_lt_zero _)⟩, x.al (by decide +kernel), ⟨x.ai (by decide +kernel), x.ai (by decide +kernel), x.i (by decide +kernel), x.i (by decide +kernel), x.l (by decide +kernel)⟩, ⟨x.i (by decide +kernel), by decide, fun i hi => absurd hi (Nat.not_lt_zero _)⟩, x.i (by decide +kernel), fun p hp => ?_, ⟨x.i (by decide +kernel), by decide, fun i hi => absurd hi (Nat.not_lt_zero _)⟩⟩
  have e : prD (gPr (sFl S9 (-1))) p = [] := (by decide : ∀ p, p < 12 → prD (gPr (sFl S9 (-1))) p = []) p hp
  rw [e, show aI h 76 = List.replicate 12 0 from x.ai (by decide +kernel)]
  exact ⟨by decide, (by decide : ∀ p, p < 12 → (List.replicate 12 (0 : Int32)).getD p 0 = nI 0) p hp, fun k hk => absurd hk (Nat.not_lt_zero _)⟩
section CT9
variable {l : Launch} {w : WD} {d : Nat} {h0 h : AH} {Q : Option AV → AH → Prop}
theorem i_x9 (x : Tok h0 kn0 h) (q : ∀ h1 h3, Tok h0 knE h1 → OM h1 h3 → Lay h3 → RM S0 h3 → Q none h3) : Con l w false (d + 5) HX9_init [vr 62] h 25 1209 Q := by
  refine Con.of ok_X9_init (nones := []) rfl (by simp) ?_
  refine goN 2 ok_X9_init ?_
  refine And.intro (by decide) ?_
  refine goN 4 ok_X9_init ?_
  refine And.intro (by decide) (And.intro (by decide) ⟨24, 1197, rfl, rfl, ?_⟩)
  refine And.intro (cnw (x.z (a := 62) (by decide +kernel)) (show hC _ 62 = 11 from x.c (by decide +kernel))) ?_
  have yy1 : Tok h0 kn1 _ := x.ar (f := 642) (a := 62) ⟨by decide, by decide +kernel⟩ 12
  refine Ex.kx yy1 (fun A1 y1 => ?_)
  clear yy1
  refine goN 4 ok_X9_init ?_
  refine And.intro (by decide) (And.intro (by decide) ⟨23, 1097, rfl, rfl, ?_⟩)
  refine And.intro (cnw (y1.z (a := 62) (by decide +kernel)) (show hC _ 62 = 11 from y1.c (by decide +kernel))) ?_
  have yy2 : Tok h0 kn2 _ := y1.ar (f := 644) (a := 62) ⟨by decide, by decide +kernel⟩ 100
  refine Ex.kx yy2 (fun A2 y2 => ?_)
  clear yy2
  refine goN 4 ok_X9_init ?_
  refine And.intro (by decide) (And.intro (by decide) ⟨22, 997, rfl, rfl, ?_⟩)
  refine And.intro (cnw (y2.z (a := 62) (by decide +kernel)) (show hC _ 62 = 11 from y2.c (by decide +kernel))) ?_
  have yy3 : Tok h0 kn3 _ := y2.ar (f := 645) (a := 62) ⟨by decide, by decide +kernel⟩ 100
  refine Ex.kx yy3 (fun A3 y3 => ?_)
  clear yy3
  refine goN 4 ok_X9_init ?_
  refine And.intro (by decide) (And.intro (by decide) ⟨21, 897, rfl, rfl, ?_⟩)
  refine And.intro (cnw (y3.z (a := 62) (by decide +kernel)) (show hC _ 62 = 11 from y3.c (by decide +kernel))) ?_
  have yy4 : Tok h0 kn4 _ := y3.ar (f := 646) (a := 62) ⟨by decide, by decide +kernel⟩ 100
  refine Ex.kx yy4 (fun A4 y4 => ?_)
  clear yy4
  refine goN 4 ok_X9_init ?_
  refine And.intro (by decide) (And.intro (by decide) ⟨20, 797, rfl, rfl, ?_⟩)
  refine And.intro (cnw (y4.z (a := 62) (by decide +kernel)) (show hC _ 62 = 11 from y4.c (by decide +kernel))) ?_
  have yy5 : Tok h0 kn5 _ := y4.br (f := 647) (a := 62) ⟨by decide, by decide +kernel⟩ 100
  refine Ex.kx yy5 (fun A5 y5 => ?_)
  clear yy5
  refine goN 4 ok_X9_init ?_
  refine And.intro (by decide) (And.intro (by decide) ⟨19, 697, rfl, rfl, ?_⟩)
  refine And.intro (cnw (y5.z (a := 62) (by decide +kernel)) (show hC _ 62 = 11 from y5.c (by decide +kernel))) ?_
  have yy6 : Tok h0 kn6 _ := y5.ar (f := 648) (a := 62) ⟨by decide, by decide +kernel⟩ 100
  refine Ex.kx yy6 (fun A6 y6 => ?_)
  clear yy6
  refine goN 4 ok_X9_init ?_
  refine And.intro (by decide) (And.intro (by decide) ⟨18, 694, rfl, rfl, ?_⟩)
  refine And.intro (cnw (y6.z (a := 62) (by decide +kernel)) (show hC _ 62 = 11 from y6.c (by decide +kernel))) ?_
  have yy7 : Tok h0 kn7 _ := y6.br (f := 649) (a := 62) ⟨by decide, by decide +kernel⟩ 3
  refine Ex.kx yy7 (fun A7 y7 => ?_)
  clear yy7
  refine goN 4 ok_X9_init ?_
  refine And.intro (by decide) (And.intro (by decide) ⟨17, 688, rfl, rfl, ?_⟩)
  refine And.intro (cnw (y7.z (a := 62) (by decide +kernel)) (show hC _ 62 = 11 from y7.c (by decide +kernel))) ?_
  have yy8 : Tok h0 kn8 _ := y7.zr (f := 650) (a := 62) ⟨by decide, by decide +kernel⟩ 6
  refine Ex.kx yy8 (fun A8 y8 => ?_)
  clear yy8
  refine goN 4 ok_X9_init ?_
  refine And.intro (by decide) (And.intro (by decide) ⟨16, 682, rfl, rfl, ?_⟩)
  refine And.intro (cnw (y8.z (a := 62) (by decide +kernel)) (show hC _ 62 = 11 from y8.c (by decide +kernel))) ?_
  have yy9 : Tok h0 kn9 _ := y8.ar (f := 651) (a := 62) ⟨by decide, by decide +kernel⟩ 6
  refine Ex.kx yy9 (fun A9 y9 => ?_)
  clear yy9
  refine goN 4 ok_X9_init ?_
  refine And.intro (by decide) (And.intro (by decide) ⟨15, 582, rfl, rfl, ?_⟩)
  refine And.intro (cnw (y9.z (a := 62) (by decide +kernel)) (show hC _ 62 = 11 from y9.c (by decide +kernel))) ?_
  have yy10 : Tok h0 kn10 _ := y9.ar (f := 655) (a := 62) ⟨by decide, by decide +kernel⟩ 100
  refine Ex.kx yy10 (fun A10 y10 => ?_)
  clear yy10
  refine goN 4 ok_X9_init ?_
  refine And.intro (by decide) (And.intro (by decide) ⟨14, 382, rfl, rfl, ?_⟩)
  refine And.intro (cnw (y10.z (a := 62) (by decide +kernel)) (show hC _ 62 = 11 from y10.c (by decide +kernel))) ?_
  have yy11 : Tok h0 kn11 _ := y10.ar (f := 657) (a := 62) ⟨by decide, by decide +kernel⟩ 200
  refine Ex.kx yy11 (fun A11 y11 => ?_)
  clear yy11
  refine goN 3 ok_X9_init ?_
  refine And.intro (show hC _ 62 = 11 from y11.c (by decide +kernel)) ?_
  have yy12 : Tok h0 kn12 _ := y11.s (f := 661) (a := 62) ⟨by decide, by decide +kernel⟩ (-1)
  refine Ex.kx yy12 (fun A12 y12 => ?_)
  clear yy12
  refine goN 4 ok_X9_init ?_
  refine And.intro (by decide) (And.intro (by decide) ⟨13, 376, rfl, rfl, ?_⟩)
  refine And.intro (cnw (y12.z (a := 62) (by decide +kernel)) (show hC _ 62 = 11 from y12.c (by decide +kernel))) ?_
  have yy13 : Tok h0 kn13 _ := y12.zr (f := 664) (a := 62) ⟨by decide, by decide +kernel⟩ 6
  refine Ex.kx yy13 (fun A13 y13 => ?_)
  clear yy13
  refine goN 4 ok_X9_init ?_
  refine And.intro (by decide) (And.intro (by decide) ⟨12, 370, rfl, rfl, ?_⟩)
  refine And.intro (cnw (y13.z (a := 62) (by decide +kernel)) (show hC _ 62 = 11 from y13.c (by decide +kernel))) ?_
  have yy14 : Tok h0 kn14 _ := y13.ar (f := 665) (a := 62) ⟨by decide, by decide +kernel⟩ 6
  refine Ex.kx yy14 (fun A14 y14 => ?_)
  clear yy14
  refine goN 4 ok_X9_init ?_
  refine And.intro (by decide) (And.intro (by decide) ⟨11, 358, rfl, rfl, ?_⟩)
  refine And.intro (cnw (y14.z (a := 62) (by decide +kernel)) (show hC _ 62 = 11 from y14.c (by decide +kernel))) ?_
  have yy15 : Tok h0 kn15 _ := y14.ar (f := 670) (a := 62) ⟨by decide, by decide +kernel⟩ 12
  refine Ex.kx yy15 (fun A15 y15 => ?_)
  clear yy15
  refine goN 4 ok_X9_init ?_
  refine And.intro (by decide) (And.intro (by decide) ⟨10, 262, rfl, rfl, ?_⟩)
  refine And.intro (cnw (y15.z (a := 62) (by decide +kernel)) (show hC _ 62 = 11 from y15.c (by decide +kernel))) ?_
  have yy16 : Tok h0 kn16 _ := y15.ar (f := 671) (a := 62) ⟨by decide, by decide +kernel⟩ 96
  refine Ex.kx yy16 (fun A16 y16 => ?_)
  clear yy16
  refine goN 4 ok_X9_init ?_
  refine And.intro (by decide) (And.intro (by decide) ⟨9, 166, rfl, rfl, ?_⟩)
  refine And.intro (cnw (y16.z (a := 62) (by decide +kernel)) (show hC _ 62 = 11 from y16.c (by decide +kernel))) ?_
  have yy17 : Tok h0 kn17 _ := y16.ar (f := 672) (a := 62) ⟨by decide, by decide +kernel⟩ 96
  refine Ex.kx yy17 (fun A17 y17 => ?_)
  clear yy17
  refine goN 4 ok_X9_init ?_
  refine And.intro (by decide) (And.intro (by decide) ⟨8, 70, rfl, rfl, ?_⟩)
  refine And.intro (cnw (y17.z (a := 62) (by decide +kernel)) (show hC _ 62 = 11 from y17.c (by decide +kernel))) ?_
  have yy18 : Tok h0 kn18 _ := y17.ar (f := 673) (a := 62) ⟨by decide, by decide +kernel⟩ 96
  refine Ex.kx yy18 (fun A18 y18 => ?_)
  clear yy18
  refine goN 4 ok_X9_init ?_
  refine And.intro (by decide) (And.intro (by decide) ⟨7, 62, rfl, rfl, ?_⟩)
  refine And.intro (cnw (y18.z (a := 62) (by decide +kernel)) (show hC _ 62 = 11 from y18.c (by decide +kernel))) ?_
  have yy19 : Tok h0 kn19 _ := y18.ar (f := 674) (a := 62) ⟨by decide, by decide +kernel⟩ 8
  refine Ex.kx yy19 (fun A19 y19 => ?_)
  clear yy19
  refine goN 4 ok_X9_init ?_
  refine And.intro (by decide) (And.intro (by decide) ⟨6, 54, rfl, rfl, ?_⟩)
  refine And.intro (cnw (y19.z (a := 62) (by decide +kernel)) (show hC _ 62 = 11 from y19.c (by decide +kernel))) ?_
  have yy20 : Tok h0 kn20 _ := y19.ar (f := 675) (a := 62) ⟨by decide, by decide +kernel⟩ 8
  refine Ex.kx yy20 (fun A20 y20 => ?_)
  clear yy20
  refine goN 4 ok_X9_init ?_
  refine And.intro (by decide) (And.intro (by decide) ⟨5, 46, rfl, rfl, ?_⟩)
  refine And.intro (cnw (y20.z (a := 62) (by decide +kernel)) (show hC _ 62 = 11 from y20.c (by decide +kernel))) ?_
  have yy21 : Tok h0 kn21 _ := y20.ar (f := 676) (a := 62) ⟨by decide, by decide +kernel⟩ 8
  refine Ex.kx yy21 (fun A21 y21 => ?_)
  clear yy21
  refine goN 4 ok_X9_init ?_
  refine And.intro (by decide) (And.intro (by decide) ⟨4, 38, rfl, rfl, ?_⟩)
  refine And.intro (cnw (y21.z (a := 62) (by decide +kernel)) (show hC _ 62 = 11 from y21.c (by decide +kernel))) ?_
  have yy22 : Tok h0 kn22 _ := y21.ar (f := 678) (a := 62) ⟨by decide, by decide +kernel⟩ 8
  refine Ex.kx yy22 (fun A22 y22 => ?_)
  clear yy22
  refine goN 4 ok_X9_init ?_
  refine And.intro (by decide) (And.intro (by decide) ⟨3, 31, rfl, rfl, ?_⟩)
  refine And.intro (cnw (y22.z (a := 62) (by decide +kernel)) (show hC _ 62 = 11 from y22.c (by decide +kernel))) ?_
  have yy23 : Tok h0 kn23 _ := y22.ar (f := 685) (a := 62) ⟨by decide, by decide +kernel⟩ 7
  refine Ex.kx yy23 (fun A23 y23 => ?_)
  clear yy23
  refine goN 4 ok_X9_init ?_
  refine And.intro (by decide) (And.intro (by decide) ⟨2, 24, rfl, rfl, ?_⟩)
  refine And.intro (cnw (y23.z (a := 62) (by decide +kernel)) (show hC _ 62 = 11 from y23.c (by decide +kernel))) ?_
  have yy24 : Tok h0 kn24 _ := y23.ar (f := 686) (a := 62) ⟨by decide, by decide +kernel⟩ 7
  refine Ex.kx yy24 (fun A24 y24 => ?_)
  clear yy24
  refine goN 4 ok_X9_init ?_
  refine And.intro (by decide) (And.intro (by decide) ⟨1, 12, rfl, rfl, ?_⟩)
  refine And.intro (cnw (y24.z (a := 62) (by decide +kernel)) (show hC _ 62 = 11 from y24.c (by decide +kernel))) ?_
  have yy25 : Tok h0 kn25 _ := y24.ar (f := 688) (a := 62) ⟨by decide, by decide +kernel⟩ 12
  refine Ex.kx yy25 (fun A25 y25 => ?_)
  clear yy25
  refine goN 4 ok_X9_init ?_
  refine And.intro (by decide) (And.intro (by decide) ⟨0, 0, rfl, rfl, ?_⟩)
  refine And.intro (cnw (y25.z (a := 62) (by decide +kernel)) (show hC _ 62 = 11 from y25.c (by decide +kernel))) ?_
  have yy26 : Tok h0 kn26 _ := y25.ar (f := 689) (a := 62) ⟨by decide, by decide +kernel⟩ 12
  refine Ex.kx yy26 (fun A26 y26 => ?_)
  clear yy26
  have hy := kn_lay y26
  have hM := kn_rm y26
  refine Ex.tm hy ?_
  refine go ok_X9_init ?_
  refine Cal.z (r_beginRights (S := S9) (h0 := A26) (pos := 0) ⟨hM, OM.rf _, y26.i (by decide +kernel), y26.i (by decide +kernel), Nat.zero_le _⟩ (fun h2 ht2 hN2 => ?_))
  refine go ok_X9_init ?_
  refine Cal.z (r_useRights (S := S9) (p := -1) ht2.1 ht2.2.1 hN2 ⟨by decide, by decide⟩ (fun h3 hM3 ho3 => ?_))
  refine Ex.lay (fun hy3 => ?_)
  refine go ok_X9_init ?_
  exact q _ _ y26 ho3 hy3 hM3
end CT9

