/-! ===== the class is made ===== -/
def kk0 : TB := (32, [], [], [], [], [], [])
def kk1 : TB := tbN kk0 10 [] []
def kk2 : TB := tbR (tbS (tbN kk1 1 [2] []) 0 33 0) 1 33 1
def kk3 : TB := tbR kk2 576 32 33
def kk4 : TB := tbR (tbS (tbN kk3 1 [2] []) 0 34 0) 1 34 1
def kk5 : TB := tbR kk4 577 32 34
def kkA : TB := tbT (tbN kk5 101 [] []) 35 [0, 0, 0, 0, 0, 0]
def kk6 : TB := tbT kkA 35 [-1000, 0, 0, 0, 0, 0]
def kk7 : TB := tbT kk6 35 [-1000, -1000, 0, 0, 0, 0]
def kk8 : TB := tbT kk7 35 [-1000, -1000, -1000, 0, 0, 0]
def kk9 : TB := tbT kk8 35 [-1000, -1000, -1000, -1000, 0, 0]
def kk10 : TB := tbT kk9 35 [-1000, -1000, -1000, -1000, -1000, 0]
def kk11 : TB := tbT kk10 35 [-1000, -1000, -1000, -1000, -1000, -1000]
def kk12 : TB := tbR kk11 578 32 35
def kk13 : TB := tbText (tbN kk12 8 [] []) 36
def kk14 : TB := tbR kk13 579 32 36
def kk15 : TB := tbWhole (tbN kk14 9 [] []) 38
def kk16 : TB := tbR kk15 580 32 38
def kk17 : TB := tbPlan (tbN kk16 5 [] []) 42
def kk18 : TB := tbR kk17 581 32 42
def kk19 : TB := tbHous (tbN kk18 2 [] []) 52
def kk20 : TB := tbR kk19 582 32 52
def kk21 : TB := tbRight (tbN kk20 7 [] []) 54
def kk22 : TB := tbR kk21 583 32 54
def kk23 : TB := tbRight (tbN kk22 7 [] []) 56
def kk24 : TB := tbR kk23 584 32 56
def kk25 : TB := tbProg (tbN kk24 6 [] []) 58
def kk26 : TB := tbR kk25 585 32 58
def kk27 : TB := tbS kk26 586 32 0
def kk28 : TB := tbS kk27 587 32 (-1)
def kkE : TB := kk28
section CT8
variable {l : Launch} {w : WD} {d : Nat} {h0 h : AH} {Q : Option AV → AH → Prop}
theorem i_x8 (x : Tok h0 kk1 h) (q : ∀ h', Tok h0 kkE h' → Q none h') : Con l w false (d + 5) HX8_init [vr 32] h 29 387 Q := by
  refine Con.of ok_X8_init (nones := []) rfl (by simp) ?_
  refine goN 2 ok_X8_init ?_
  refine And.intro (by decide) ?_
  refine goN 4 ok_X8_init ?_
  refine ⟨28, 384, rfl, rfl, ?_⟩
  have yw : Tok h0 (tbN kk1 1 [2] []) _ := x.nw 1 [2] []
  have e0 : hZ _ = 33 := x.1
  generalize nW _ 1 = B at yw ⊢
  rw [e0]
  have w1 : hC B 33 = 1 := yw.c (List.mem_cons_self ..)
  refine And.intro w1 ?_
  refine Cal.z (i_list w1 (by decide) ?_)
  clear w1 e0
  have yy1 : Tok h0 kk2 _ := (yw.s (f := 0) (a := 33) ⟨by decide, by decide +kernel⟩ 0).sr (f := 1) (a := 33) ⟨by decide, by decide +kernel⟩ 1
  refine Ex.kx yy1 (fun A1 y1 => ?_)
  clear yy1
  clear yw
  refine goN 1 ok_X8_init ?_
  refine And.intro (show hC _ 32 = 10 from y1.c (by decide +kernel)) ?_
  have yy2 : Tok h0 kk3 _ := y1.sr (f := 576) (a := 32) ⟨by decide, by decide +kernel⟩ 33
  refine Ex.kx yy2 (fun A2 y2 => ?_)
  clear yy2
  refine goN 4 ok_X8_init ?_
  refine ⟨27, 381, rfl, rfl, ?_⟩
  have yw : Tok h0 (tbN kk3 1 [2] []) _ := y2.nw 1 [2] []
  have e0 : hZ _ = 34 := y2.1
  generalize nW _ 1 = B at yw ⊢
  rw [e0]
  have w1 : hC B 34 = 1 := yw.c (List.mem_cons_self ..)
  refine And.intro w1 ?_
  refine Cal.z (i_list w1 (by decide) ?_)
  clear w1 e0
  have yy3 : Tok h0 kk4 _ := (yw.s (f := 0) (a := 34) ⟨by decide, by decide +kernel⟩ 0).sr (f := 1) (a := 34) ⟨by decide, by decide +kernel⟩ 1
  refine Ex.kx yy3 (fun A3 y3 => ?_)
  clear yy3
  clear yw
  refine goN 1 ok_X8_init ?_
  refine And.intro (show hC _ 32 = 10 from y3.c (by decide +kernel)) ?_
  have yy4 : Tok h0 kk5 _ := y3.sr (f := 577) (a := 32) ⟨by decide, by decide +kernel⟩ 34
  refine Ex.kx yy4 (fun A4 y4 => ?_)
  clear yy4
  refine goN 3 ok_X8_init ?_
  refine And.intro (by decide) (And.intro (by decide) ⟨26, 375, rfl, rfl, ?_⟩)
  refine ez2 (z := 35) rfl y4 (fun A0 y0 => ?_)
  replace y0 : Tok h0 kkA A0 := y0
  refine goN 4 ok_X8_init ?_
  refine And.intro ⟨show hC _ 35 = 101 from y0.c (by decide +kernel), by rw [show aI _ 35 = [0, 0, 0, 0, 0, 0] from y0.ai (by decide +kernel)]; exact ix_of (k := 0) rfl (by decide) (by decide)⟩ ?_
  rw [show aI _ 35 = [0, 0, 0, 0, 0, 0] from y0.ai (by decide +kernel)]
  have yy5 : Tok h0 kk6 _ := y0.t (a := 35) ⟨by decide, by decide +kernel⟩ [-1000, 0, 0, 0, 0, 0]
  refine Ex.kx yy5 (fun A5 y5 => ?_)
  clear yy5
  refine goN 4 ok_X8_init ?_
  refine And.intro ⟨show hC _ 35 = 101 from y5.c (by decide +kernel), by rw [show aI _ 35 = [-1000, 0, 0, 0, 0, 0] from y5.ai (by decide +kernel)]; exact ix_of (k := 1) rfl (by decide) (by decide)⟩ ?_
  rw [show aI _ 35 = [-1000, 0, 0, 0, 0, 0] from y5.ai (by decide +kernel)]
  have yy6 : Tok h0 kk7 _ := y5.t (a := 35) ⟨by decide, by decide +kernel⟩ [-1000, -1000, 0, 0, 0, 0]
  refine Ex.kx yy6 (fun A6 y6 => ?_)
  clear yy6
  refine goN 4 ok_X8_init ?_
  refine And.intro ⟨show hC _ 35 = 101 from y6.c (by decide +kernel), by rw [show aI _ 35 = [-1000, -1000, 0, 0, 0, 0] from y6.ai (by decide +kernel)]; exact ix_of (k := 2) rfl (by decide) (by decide)⟩ ?_
  rw [show aI _ 35 = [-1000, -1000, 0, 0, 0, 0] from y6.ai (by decide +kernel)]
  have yy7 : Tok h0 kk8 _ := y6.t (a := 35) ⟨by decide, by decide +kernel⟩ [-1000, -1000, -1000, 0, 0, 0]
  refine Ex.kx yy7 (fun A7 y7 => ?_)
  clear yy7
  refine goN 4 ok_X8_init ?_
  refine And.intro ⟨show hC _ 35 = 101 from y7.c (by decide +kernel), by rw [show aI _ 35 = [-1000, -1000, -1000, 0, 0, 0] from y7.ai (by decide +kernel)]; exact ix_of (k := 3) rfl (by decide) (by decide)⟩ ?_
  rw [show aI _ 35 = [-1000, -1000, -1000, 0, 0, 0] from y7.ai (by decide +kernel)]
  have yy8 : Tok h0 kk9 _ := y7.t (a := 35) ⟨by decide, by decide +kernel⟩ [-1000, -1000, -1000, -1000, 0, 0]
  refine Ex.kx yy8 (fun A8 y8 => ?_)
  clear yy8
  refine goN 4 ok_X8_init ?_
  refine And.intro ⟨show hC _ 35 = 101 from y8.c (by decide +kernel), by rw [show aI _ 35 = [-1000, -1000, -1000, -1000, 0, 0] from y8.ai (by decide +kernel)]; exact ix_of (k := 4) rfl (by decide) (by decide)⟩ ?_
  rw [show aI _ 35 = [-1000, -1000, -1000, -1000, 0, 0] from y8.ai (by decide +kernel)]
  have yy9 : Tok h0 kk10 _ := y8.t (a := 35) ⟨by decide, by decide +kernel⟩ [-1000, -1000, -1000, -1000, -1000, 0]
  refine Ex.kx yy9 (fun A9 y9 => ?_)
  clear yy9
  refine goN 4 ok_X8_init ?_
  refine And.intro ⟨show hC _ 35 = 101 from y9.c (by decide +kernel), by rw [show aI _ 35 = [-1000, -1000, -1000, -1000, -1000, 0] from y9.ai (by decide +kernel)]; exact ix_of (k := 5) rfl (by decide) (by decide)⟩ ?_
  rw [show aI _ 35 = [-1000, -1000, -1000, -1000, -1000, 0] from y9.ai (by decide +kernel)]
  have yy10 : Tok h0 kk11 _ := y9.t (a := 35) ⟨by decide, by decide +kernel⟩ [-1000, -1000, -1000, -1000, -1000, -1000]
  refine Ex.kx yy10 (fun A10 y10 => ?_)
  clear yy10
  refine goN 1 ok_X8_init ?_
  refine And.intro (show hC _ 32 = 10 from y10.c (by decide +kernel)) ?_
  have yy11 : Tok h0 kk12 _ := y10.sr (f := 578) (a := 32) ⟨by decide, by decide +kernel⟩ 35
  refine Ex.kx yy11 (fun A11 y11 => ?_)
  clear yy11
  refine goN 4 ok_X8_init ?_
  refine ⟨25, 370, rfl, rfl, ?_⟩
  have yw : Tok h0 (tbN kk12 8 [] []) _ := y11.nw 8 [] []
  have e0 : hZ _ = 36 := y11.1
  generalize nW _ 8 = B at yw ⊢
  rw [e0]
  have w1 : hC B 36 = 8 := yw.c (List.mem_cons_self ..)
  refine And.intro w1 ?_
  refine Cal.k 1 200 (c2 := 24) (s2 := 170) rfl rfl (i_text yw (by decide) (by decide +kernel) (List.mem_cons_self ..) (fun h2 yv => ?_))
  clear w1 e0 yw
  have yy12 : Tok h0 kk13 _ := yv
  refine Ex.kx yy12 (fun A12 y12 => ?_)
  clear yy12
  clear yv
  refine goN 1 ok_X8_init ?_
  refine And.intro (show hC _ 32 = 10 from y12.c (by decide +kernel)) ?_
  have yy13 : Tok h0 kk14 _ := y12.sr (f := 579) (a := 32) ⟨by decide, by decide +kernel⟩ 36
  refine Ex.kx yy13 (fun A13 y13 => ?_)
  clear yy13
  refine goN 4 ok_X8_init ?_
  refine ⟨23, 160, rfl, rfl, ?_⟩
  have yw : Tok h0 (tbN kk14 9 [] []) _ := y13.nw 9 [] []
  have e0 : hZ _ = 38 := y13.1
  generalize nW _ 9 = B at yw ⊢
  rw [e0]
  have w1 : hC B 38 = 9 := yw.c (List.mem_cons_self ..)
  refine And.intro w1 ?_
  refine Cal.k 3 19 (c2 := 20) (s2 := 141) rfl rfl (i_whole yw (by decide) (by decide +kernel) (List.mem_cons_self ..) (fun h2 yv => ?_))
  clear w1 e0 yw
  have yy14 : Tok h0 kk15 _ := yv
  refine Ex.kx yy14 (fun A14 y14 => ?_)
  clear yy14
  clear yv
  refine goN 1 ok_X8_init ?_
  refine And.intro (show hC _ 32 = 10 from y14.c (by decide +kernel)) ?_
  have yy15 : Tok h0 kk16 _ := y14.sr (f := 580) (a := 32) ⟨by decide, by decide +kernel⟩ 38
  refine Ex.kx yy15 (fun A15 y15 => ?_)
  clear yy15
  refine goN 4 ok_X8_init ?_
  refine ⟨19, 129, rfl, rfl, ?_⟩
  have yw : Tok h0 (tbN kk16 5 [] []) _ := y15.nw 5 [] []
  have e0 : hZ _ = 42 := y15.1
  generalize nW _ 5 = B at yw ⊢
  rw [e0]
  have w1 : hC B 42 = 5 := yw.c (List.mem_cons_self ..)
  refine And.intro w1 ?_
  refine Cal.k 9 70 (c2 := 10) (s2 := 59) rfl rfl (i_plan yw (by decide) (by decide +kernel) (List.mem_cons_self ..) (fun h2 yv => ?_))
  clear w1 e0 yw
  have yy16 : Tok h0 kk17 _ := yv
  refine Ex.kx yy16 (fun A16 y16 => ?_)
  clear yy16
  clear yv
  refine goN 1 ok_X8_init ?_
  refine And.intro (show hC _ 32 = 10 from y16.c (by decide +kernel)) ?_
  have yy17 : Tok h0 kk18 _ := y16.sr (f := 581) (a := 32) ⟨by decide, by decide +kernel⟩ 42
  refine Ex.kx yy17 (fun A17 y17 => ?_)
  clear yy17
  refine goN 4 ok_X8_init ?_
  refine ⟨9, 58, rfl, rfl, ?_⟩
  have yw : Tok h0 (tbN kk18 2 [] []) _ := y17.nw 2 [] []
  have e0 : hZ _ = 52 := y17.1
  generalize nW _ 2 = B at yw ⊢
  rw [e0]
  have w1 : hC B 52 = 2 := yw.c (List.mem_cons_self ..)
  refine And.intro w1 ?_
  refine Cal.k 1 3 (c2 := 8) (s2 := 55) rfl rfl (i_hous yw (by decide) (by decide +kernel) (List.mem_cons_self ..) (fun h2 yv => ?_))
  clear w1 e0 yw
  have yy18 : Tok h0 kk19 _ := yv
  refine Ex.kx yy18 (fun A18 y18 => ?_)
  clear yy18
  clear yv
  refine goN 1 ok_X8_init ?_
  refine And.intro (show hC _ 32 = 10 from y18.c (by decide +kernel)) ?_
  have yy19 : Tok h0 kk20 _ := y18.sr (f := 582) (a := 32) ⟨by decide, by decide +kernel⟩ 52
  refine Ex.kx yy19 (fun A19 y19 => ?_)
  clear yy19
  refine goN 4 ok_X8_init ?_
  refine ⟨7, 48, rfl, rfl, ?_⟩
  have yw : Tok h0 (tbN kk20 7 [] []) _ := y19.nw 7 [] []
  have e0 : hZ _ = 54 := y19.1
  generalize nW _ 7 = B at yw ⊢
  rw [e0]
  have w1 : hC B 54 = 7 := yw.c (List.mem_cons_self ..)
  refine And.intro w1 ?_
  refine Cal.k 1 6 (c2 := 6) (s2 := 42) rfl rfl (i_rights yw (by decide) (by decide +kernel) (List.mem_cons_self ..) (fun h2 yv => ?_))
  clear w1 e0 yw
  have yy20 : Tok h0 kk21 _ := yv
  refine Ex.kx yy20 (fun A20 y20 => ?_)
  clear yy20
  clear yv
  refine goN 1 ok_X8_init ?_
  refine And.intro (show hC _ 32 = 10 from y20.c (by decide +kernel)) ?_
  have yy21 : Tok h0 kk22 _ := y20.sr (f := 583) (a := 32) ⟨by decide, by decide +kernel⟩ 54
  refine Ex.kx yy21 (fun A21 y21 => ?_)
  clear yy21
  refine goN 4 ok_X8_init ?_
  refine ⟨5, 35, rfl, rfl, ?_⟩
  have yw : Tok h0 (tbN kk22 7 [] []) _ := y21.nw 7 [] []
  have e0 : hZ _ = 56 := y21.1
  generalize nW _ 7 = B at yw ⊢
  rw [e0]
  have w1 : hC B 56 = 7 := yw.c (List.mem_cons_self ..)
  refine And.intro w1 ?_
  refine Cal.k 1 6 (c2 := 4) (s2 := 29) rfl rfl (i_rights yw (by decide) (by decide +kernel) (List.mem_cons_self ..) (fun h2 yv => ?_))
  clear w1 e0 yw
  have yy22 : Tok h0 kk23 _ := yv
  refine Ex.kx yy22 (fun A22 y22 => ?_)
  clear yy22
  clear yv
  refine goN 1 ok_X8_init ?_
  refine And.intro (show hC _ 32 = 10 from y22.c (by decide +kernel)) ?_
  have yy23 : Tok h0 kk24 _ := y22.sr (f := 584) (a := 32) ⟨by decide, by decide +kernel⟩ 56
  refine Ex.kx yy23 (fun A23 y23 => ?_)
  clear yy23
  refine goN 4 ok_X8_init ?_
  refine ⟨3, 24, rfl, rfl, ?_⟩
  have yw : Tok h0 (tbN kk24 6 [] []) _ := y23.nw 6 [] []
  have e0 : hZ _ = 58 := y23.1
  generalize nW _ 6 = B at yw ⊢
  rw [e0]
  have w1 : hC B 58 = 6 := yw.c (List.mem_cons_self ..)
  refine And.intro w1 ?_
  refine Cal.k 3 24 (c2 := 0) (s2 := 0) rfl rfl (i_progT yw (by decide) (by decide +kernel) (List.mem_cons_self ..) (fun h2 yv => ?_))
  clear w1 e0 yw
  have yy24 : Tok h0 kk25 _ := yv
  refine Ex.kx yy24 (fun A24 y24 => ?_)
  clear yy24
  clear yv
  refine goN 1 ok_X8_init ?_
  refine And.intro (show hC _ 32 = 10 from y24.c (by decide +kernel)) ?_
  have yy25 : Tok h0 kk26 _ := y24.sr (f := 585) (a := 32) ⟨by decide, by decide +kernel⟩ 58
  refine Ex.kx yy25 (fun A25 y25 => ?_)
  clear yy25
  refine goN 3 ok_X8_init ?_
  refine And.intro (show hC _ 32 = 10 from y25.c (by decide +kernel)) ?_
  have yy26 : Tok h0 kk27 _ := y25.s (f := 586) (a := 32) ⟨by decide, by decide +kernel⟩ 0
  refine Ex.kx yy26 (fun A26 y26 => ?_)
  clear yy26
  refine goN 3 ok_X8_init ?_
  refine And.intro (show hC _ 32 = 10 from y26.c (by decide +kernel)) ?_
  have yy27 : Tok h0 kk28 _ := y26.s (f := 587) (a := 32) ⟨by decide, by decide +kernel⟩ (-1)
  refine Ex.kx yy27 (fun A27 y27 => ?_)
  clear yy27
  refine goN 1 ok_X8_init ?_
  exact q _ y27
end CT8

