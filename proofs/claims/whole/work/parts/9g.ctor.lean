/-! ===== the constructors of the parts ===== -/
section CT
variable {l : Launch} {w : WD} {d : Nat} {h0 h : AH} {Q : Option AV → AH → Prop} {T : TB} {a : Nat}
theorem Ex.kx {lm : Bool} {X : MD} {pc : Nat} {ll : List (Option AV)} {st : List AV} {bc bs : Nat} (y : Tok h0 T h) (k : ∀ A, Tok h0 T A → Ex l w lm X d Q pc ll st A bc bs) : Ex l w lm X d Q pc ll st h bc bs := k h y
def tbText (T : TB) (a : Nat) : TB := tbS (tbS (tbS (tbS (tbA (T) 448 a 200) 449 a 0) 450 a 0) 451 a 0) 452 a (-1)
theorem i_text (x : Tok h0 T h) (a1 : 32 ≤ a) (a2 : a < T.1) (hm : (a, 8) ∈ T.2.1) (q : ∀ h', Tok h0 (tbText T a) h' → Q none h') : Con l w false (d + 1) HX6_init [vr a] h 1 200 Q := by
  refine Con.of ok_X6_init (nones := []) rfl (by simp) ?_
  refine goN 2 ok_X6_init ?_
  refine And.intro (show ¬ a = 0 by omega) ?_
  refine goN 4 ok_X6_init ?_
  refine And.intro (by decide) (And.intro (by decide) ⟨0, 0, rfl, rfl, ?_⟩)
  refine And.intro (cnw (x.z (show a < T.1 by omega)) (x.c hm)) ?_
  refine Ex.kx (x.ar (f := 448) ⟨a1, show a < T.1 by omega⟩ 200) (fun A1 y1 => ?_)
  refine goN 3 ok_X6_init ?_
  refine And.intro (y1.c (List.mem_cons_of_mem _ hm)) ?_
  refine Ex.kx (y1.s (f := 449) ⟨a1, show a < T.1 + 1 by omega⟩ 0) (fun A2 y2 => ?_)
  refine goN 3 ok_X6_init ?_
  refine And.intro (y2.c (List.mem_cons_of_mem _ hm)) ?_
  refine Ex.kx (y2.s (f := 450) ⟨a1, show a < T.1 + 1 by omega⟩ 0) (fun A3 y3 => ?_)
  refine goN 3 ok_X6_init ?_
  refine And.intro (y3.c (List.mem_cons_of_mem _ hm)) ?_
  refine Ex.kx (y3.s (f := 451) ⟨a1, show a < T.1 + 1 by omega⟩ 0) (fun A4 y4 => ?_)
  refine goN 3 ok_X6_init ?_
  refine And.intro (y4.c (List.mem_cons_of_mem _ hm)) ?_
  refine Ex.kx (y4.s (f := 452) ⟨a1, show a < T.1 + 1 by omega⟩ (-1)) (fun A5 y5 => ?_)
  refine goN 1 ok_X6_init ?_
  exact q _ y5
def tbPlan (T : TB) (a : Nat) : TB := tbS (tbS (tbS (tbA (tbA (tbA (tbA (tbA (tbA (tbA (tbA (tbA (T) 256 a 7) 257 a 7) 258 a 7) 259 a 7) 260 a 6) 261 a 6) 262 a 6) 263 a 12) 264 a 12) 265 a 0) 266 a 0) 267 a 0
theorem i_plan (x : Tok h0 T h) (a1 : 32 ≤ a) (a2 : a < T.1) (hm : (a, 5) ∈ T.2.1) (q : ∀ h', Tok h0 (tbPlan T a) h' → Q none h') : Con l w false (d + 1) HX3_init [vr a] h 9 70 Q := by
  refine Con.of ok_X3_init (nones := []) rfl (by simp) ?_
  refine goN 2 ok_X3_init ?_
  refine And.intro (show ¬ a = 0 by omega) ?_
  refine goN 4 ok_X3_init ?_
  refine And.intro (by decide) (And.intro (by decide) ⟨8, 63, rfl, rfl, ?_⟩)
  refine And.intro (cnw (x.z (show a < T.1 by omega)) (x.c hm)) ?_
  refine Ex.kx (x.ar (f := 256) ⟨a1, show a < T.1 by omega⟩ 7) (fun A1 y1 => ?_)
  refine goN 4 ok_X3_init ?_
  refine And.intro (by decide) (And.intro (by decide) ⟨7, 56, rfl, rfl, ?_⟩)
  refine And.intro (cnw (y1.z (show a < T.1 + 1 by omega)) (y1.c (List.mem_cons_of_mem _ hm))) ?_
  refine Ex.kx (y1.ar (f := 257) ⟨a1, show a < T.1 + 1 by omega⟩ 7) (fun A2 y2 => ?_)
  refine goN 4 ok_X3_init ?_
  refine And.intro (by decide) (And.intro (by decide) ⟨6, 49, rfl, rfl, ?_⟩)
  refine And.intro (cnw (y2.z (show a < T.1 + 1 + 1 by omega)) (y2.c (List.mem_cons_of_mem _ (List.mem_cons_of_mem _ hm)))) ?_
  refine Ex.kx (y2.ar (f := 258) ⟨a1, show a < T.1 + 1 + 1 by omega⟩ 7) (fun A3 y3 => ?_)
  refine goN 4 ok_X3_init ?_
  refine And.intro (by decide) (And.intro (by decide) ⟨5, 42, rfl, rfl, ?_⟩)
  refine And.intro (cnw (y3.z (show a < T.1 + 1 + 1 + 1 by omega)) (y3.c (List.mem_cons_of_mem _ (List.mem_cons_of_mem _ (List.mem_cons_of_mem _ hm))))) ?_
  refine Ex.kx (y3.ar (f := 259) ⟨a1, show a < T.1 + 1 + 1 + 1 by omega⟩ 7) (fun A4 y4 => ?_)
  refine goN 4 ok_X3_init ?_
  refine And.intro (by decide) (And.intro (by decide) ⟨4, 36, rfl, rfl, ?_⟩)
  refine And.intro (cnw (y4.z (show a < T.1 + 1 + 1 + 1 + 1 by omega)) (y4.c (List.mem_cons_of_mem _ (List.mem_cons_of_mem _ (List.mem_cons_of_mem _ (List.mem_cons_of_mem _ hm)))))) ?_
  refine Ex.kx (y4.ar (f := 260) ⟨a1, show a < T.1 + 1 + 1 + 1 + 1 by omega⟩ 6) (fun A5 y5 => ?_)
  refine goN 4 ok_X3_init ?_
  refine And.intro (by decide) (And.intro (by decide) ⟨3, 30, rfl, rfl, ?_⟩)
  refine And.intro (cnw (y5.z (show a < T.1 + 1 + 1 + 1 + 1 + 1 by omega)) (y5.c (List.mem_cons_of_mem _ (List.mem_cons_of_mem _ (List.mem_cons_of_mem _ (List.mem_cons_of_mem _ (List.mem_cons_of_mem _ hm))))))) ?_
  refine Ex.kx (y5.ar (f := 261) ⟨a1, show a < T.1 + 1 + 1 + 1 + 1 + 1 by omega⟩ 6) (fun A6 y6 => ?_)
  refine goN 4 ok_X3_init ?_
  refine And.intro (by decide) (And.intro (by decide) ⟨2, 24, rfl, rfl, ?_⟩)
  refine And.intro (cnw (y6.z (show a < T.1 + 1 + 1 + 1 + 1 + 1 + 1 by omega)) (y6.c (List.mem_cons_of_mem _ (List.mem_cons_of_mem _ (List.mem_cons_of_mem _ (List.mem_cons_of_mem _ (List.mem_cons_of_mem _ (List.mem_cons_of_mem _ hm)))))))) ?_
  refine Ex.kx (y6.ar (f := 262) ⟨a1, show a < T.1 + 1 + 1 + 1 + 1 + 1 + 1 by omega⟩ 6) (fun A7 y7 => ?_)
  refine goN 4 ok_X3_init ?_
  refine And.intro (by decide) (And.intro (by decide) ⟨1, 12, rfl, rfl, ?_⟩)
  refine And.intro (cnw (y7.z (show a < T.1 + 1 + 1 + 1 + 1 + 1 + 1 + 1 by omega)) (y7.c (List.mem_cons_of_mem _ (List.mem_cons_of_mem _ (List.mem_cons_of_mem _ (List.mem_cons_of_mem _ (List.mem_cons_of_mem _ (List.mem_cons_of_mem _ (List.mem_cons_of_mem _ hm))))))))) ?_
  refine Ex.kx (y7.ar (f := 263) ⟨a1, show a < T.1 + 1 + 1 + 1 + 1 + 1 + 1 + 1 by omega⟩ 12) (fun A8 y8 => ?_)
  refine goN 4 ok_X3_init ?_
  refine And.intro (by decide) (And.intro (by decide) ⟨0, 0, rfl, rfl, ?_⟩)
  refine And.intro (cnw (y8.z (show a < T.1 + 1 + 1 + 1 + 1 + 1 + 1 + 1 + 1 by omega)) (y8.c (List.mem_cons_of_mem _ (List.mem_cons_of_mem _ (List.mem_cons_of_mem _ (List.mem_cons_of_mem _ (List.mem_cons_of_mem _ (List.mem_cons_of_mem _ (List.mem_cons_of_mem _ (List.mem_cons_of_mem _ hm)))))))))) ?_
  refine Ex.kx (y8.ar (f := 264) ⟨a1, show a < T.1 + 1 + 1 + 1 + 1 + 1 + 1 + 1 + 1 by omega⟩ 12) (fun A9 y9 => ?_)
  refine goN 3 ok_X3_init ?_
  refine And.intro (y9.c (List.mem_cons_of_mem _ (List.mem_cons_of_mem _ (List.mem_cons_of_mem _ (List.mem_cons_of_mem _ (List.mem_cons_of_mem _ (List.mem_cons_of_mem _ (List.mem_cons_of_mem _ (List.mem_cons_of_mem _ (List.mem_cons_of_mem _ hm)))))))))) ?_
  refine Ex.kx (y9.s (f := 265) ⟨a1, show a < T.1 + 1 + 1 + 1 + 1 + 1 + 1 + 1 + 1 + 1 by omega⟩ 0) (fun A10 y10 => ?_)
  refine goN 3 ok_X3_init ?_
  refine And.intro (y10.c (List.mem_cons_of_mem _ (List.mem_cons_of_mem _ (List.mem_cons_of_mem _ (List.mem_cons_of_mem _ (List.mem_cons_of_mem _ (List.mem_cons_of_mem _ (List.mem_cons_of_mem _ (List.mem_cons_of_mem _ (List.mem_cons_of_mem _ hm)))))))))) ?_
  refine Ex.kx (y10.s (f := 266) ⟨a1, show a < T.1 + 1 + 1 + 1 + 1 + 1 + 1 + 1 + 1 + 1 by omega⟩ 0) (fun A11 y11 => ?_)
  refine goN 3 ok_X3_init ?_
  refine And.intro (y11.c (List.mem_cons_of_mem _ (List.mem_cons_of_mem _ (List.mem_cons_of_mem _ (List.mem_cons_of_mem _ (List.mem_cons_of_mem _ (List.mem_cons_of_mem _ (List.mem_cons_of_mem _ (List.mem_cons_of_mem _ (List.mem_cons_of_mem _ hm)))))))))) ?_
  refine Ex.kx (y11.s (f := 267) ⟨a1, show a < T.1 + 1 + 1 + 1 + 1 + 1 + 1 + 1 + 1 + 1 by omega⟩ 0) (fun A12 y12 => ?_)
  refine goN 1 ok_X3_init ?_
  exact q _ y12
def tbHous (T : TB) (a : Nat) : TB := tbB (T) 64 a 3
theorem i_hous (x : Tok h0 T h) (a1 : 32 ≤ a) (a2 : a < T.1) (hm : (a, 2) ∈ T.2.1) (q : ∀ h', Tok h0 (tbHous T a) h' → Q none h') : Con l w false (d + 1) HX0_init [vr a] h 1 3 Q := by
  refine Con.of ok_X0_init (nones := []) rfl (by simp) ?_
  refine goN 2 ok_X0_init ?_
  refine And.intro (show ¬ a = 0 by omega) ?_
  refine goN 4 ok_X0_init ?_
  refine And.intro (by decide) (And.intro (by decide) ⟨0, 0, rfl, rfl, ?_⟩)
  refine And.intro (cnw (x.z (show a < T.1 by omega)) (x.c hm)) ?_
  refine Ex.kx (x.br (f := 64) ⟨a1, show a < T.1 by omega⟩ 3) (fun A1 y1 => ?_)
  refine goN 1 ok_X0_init ?_
  exact q _ y1
def tbProg (T : TB) (a : Nat) : TB := tbS (tbS (tbA (tbA (tbA (T) 320 a 8) 321 a 8) 322 a 8) 323 a 0) 324 a 0
theorem i_progT (x : Tok h0 T h) (a1 : 32 ≤ a) (a2 : a < T.1) (hm : (a, 6) ∈ T.2.1) (q : ∀ h', Tok h0 (tbProg T a) h' → Q none h') : Con l w false (d + 1) HX4_init [vr a] h 3 24 Q := by
  refine Con.of ok_X4_init (nones := []) rfl (by simp) ?_
  refine goN 2 ok_X4_init ?_
  refine And.intro (show ¬ a = 0 by omega) ?_
  refine goN 4 ok_X4_init ?_
  refine And.intro (by decide) (And.intro (by decide) ⟨2, 16, rfl, rfl, ?_⟩)
  refine And.intro (cnw (x.z (show a < T.1 by omega)) (x.c hm)) ?_
  refine Ex.kx (x.ar (f := 320) ⟨a1, show a < T.1 by omega⟩ 8) (fun A1 y1 => ?_)
  refine goN 4 ok_X4_init ?_
  refine And.intro (by decide) (And.intro (by decide) ⟨1, 8, rfl, rfl, ?_⟩)
  refine And.intro (cnw (y1.z (show a < T.1 + 1 by omega)) (y1.c (List.mem_cons_of_mem _ hm))) ?_
  refine Ex.kx (y1.ar (f := 321) ⟨a1, show a < T.1 + 1 by omega⟩ 8) (fun A2 y2 => ?_)
  refine goN 4 ok_X4_init ?_
  refine And.intro (by decide) (And.intro (by decide) ⟨0, 0, rfl, rfl, ?_⟩)
  refine And.intro (cnw (y2.z (show a < T.1 + 1 + 1 by omega)) (y2.c (List.mem_cons_of_mem _ (List.mem_cons_of_mem _ hm)))) ?_
  refine Ex.kx (y2.ar (f := 322) ⟨a1, show a < T.1 + 1 + 1 by omega⟩ 8) (fun A3 y3 => ?_)
  refine goN 3 ok_X4_init ?_
  refine And.intro (y3.c (List.mem_cons_of_mem _ (List.mem_cons_of_mem _ (List.mem_cons_of_mem _ hm)))) ?_
  refine Ex.kx (y3.s (f := 323) ⟨a1, show a < T.1 + 1 + 1 + 1 by omega⟩ 0) (fun A4 y4 => ?_)
  refine goN 3 ok_X4_init ?_
  refine And.intro (y4.c (List.mem_cons_of_mem _ (List.mem_cons_of_mem _ (List.mem_cons_of_mem _ hm)))) ?_
  refine And.intro (Or.inl rfl) ?_
  refine Ex.kx (y4.s (f := 324) ⟨a1, show a < T.1 + 1 + 1 + 1 by omega⟩ 0) (fun A5 y5 => ?_)
  refine goN 1 ok_X4_init ?_
  exact q _ y5
theorem ez1 {X : MD} {pc : Nat} {ll : List (Option AV)} {s1 : List AV} {bc bs n : Nat} (x : Tok h0 T h) (k : ∀ A, Tok h0 (tbT (tbN T 101 [] []) T.1 (List.replicate n 0)) A → Ex l w false X d Q pc ll (vr T.1 :: s1) A bc bs) : Ex l w false X d Q pc ll (vr (hZ h) :: s1) (tI (nW h 101) (hZ h) (List.replicate n 0)) bc bs := by
  rw [x.1]
  exact k _ ((x.nw 101 [] []).t ⟨x.2.1, Nat.lt_succ_self _⟩ _)
theorem ez2 {X : MD} {pc : Nat} {ll : List (Option AV)} {s1 : List AV} {bc bs n z : Nat} (hz : T.1 = z) (x : Tok h0 T h) (k : ∀ A, Tok h0 (tbT (tbN T 101 [] []) z (List.replicate n 0)) A → Ex l w false X d Q pc ll (vr z :: s1) A bc bs) : Ex l w false X d Q pc ll (vr (hZ h) :: s1) (tI (nW h 101) (hZ h) (List.replicate n 0)) bc bs := by
  subst hz
  exact ez1 x k
def tbRight (T : TB) (a : Nat) : TB := tbL (tbS (tbS (tbS (tbS (tbS (tbR (tbT (tbT (tbT (tbT (tbT (tbT (tbT (tbN (T) 101 [] []) T.1 [0, 0, 0, 0, 0, 0]) T.1 [1, 0, 0, 0, 0, 0]) T.1 [1, 1, 0, 0, 0, 0]) T.1 [1, 1, 1, 0, 0, 0]) T.1 [1, 1, 1, 1, 0, 0]) T.1 [1, 1, 1, 1, 1, 0]) T.1 [1, 1, 1, 1, 1, 1]) 384 a T.1) 385 a 0) 386 a 0) 387 a 0) 388 a 8) 389 a 24) 390 a 0
theorem i_rights (x : Tok h0 T h) (a1 : 32 ≤ a) (a2 : a < T.1) (hm : (a, 7) ∈ T.2.1) (q : ∀ h', Tok h0 (tbRight T a) h' → Q none h') : Con l w false (d + 1) HX5_init [vr a] h 1 6 Q := by
  refine Con.of ok_X5_init (nones := []) rfl (by simp) ?_
  refine goN 2 ok_X5_init ?_
  refine And.intro (show ¬ a = 0 by omega) ?_
  refine goN 3 ok_X5_init ?_
  refine And.intro (by decide) (And.intro (by decide) ⟨0, 0, rfl, rfl, ?_⟩)
  have z0 := x.1
  refine ez1 x (fun A0 y0 => ?_)
  refine goN 4 ok_X5_init ?_
  refine And.intro ⟨y0.c (List.mem_cons_self ..), by rw [y0.ai (List.mem_cons_self ..)]; exact ix_of (k := 0) rfl (by decide) (by decide)⟩ ?_
  rw [y0.ai (List.mem_cons_self ..)]
  refine Ex.kx (y0.t (a := T.1) ⟨x.2.1, Nat.lt_succ_self _⟩ [1, 0, 0, 0, 0, 0]) (fun A1 y1 => ?_)
  refine goN 4 ok_X5_init ?_
  refine And.intro ⟨y1.c (List.mem_cons_self ..), by rw [y1.ai (List.mem_cons_self ..)]; exact ix_of (k := 1) rfl (by decide) (by decide)⟩ ?_
  rw [y1.ai (List.mem_cons_self ..)]
  refine Ex.kx (y1.t (a := T.1) ⟨x.2.1, Nat.lt_succ_self _⟩ [1, 1, 0, 0, 0, 0]) (fun A2 y2 => ?_)
  refine goN 4 ok_X5_init ?_
  refine And.intro ⟨y2.c (List.mem_cons_self ..), by rw [y2.ai (List.mem_cons_self ..)]; exact ix_of (k := 2) rfl (by decide) (by decide)⟩ ?_
  rw [y2.ai (List.mem_cons_self ..)]
  refine Ex.kx (y2.t (a := T.1) ⟨x.2.1, Nat.lt_succ_self _⟩ [1, 1, 1, 0, 0, 0]) (fun A3 y3 => ?_)
  refine goN 4 ok_X5_init ?_
  refine And.intro ⟨y3.c (List.mem_cons_self ..), by rw [y3.ai (List.mem_cons_self ..)]; exact ix_of (k := 3) rfl (by decide) (by decide)⟩ ?_
  rw [y3.ai (List.mem_cons_self ..)]
  refine Ex.kx (y3.t (a := T.1) ⟨x.2.1, Nat.lt_succ_self _⟩ [1, 1, 1, 1, 0, 0]) (fun A4 y4 => ?_)
  refine goN 4 ok_X5_init ?_
  refine And.intro ⟨y4.c (List.mem_cons_self ..), by rw [y4.ai (List.mem_cons_self ..)]; exact ix_of (k := 4) rfl (by decide) (by decide)⟩ ?_
  rw [y4.ai (List.mem_cons_self ..)]
  refine Ex.kx (y4.t (a := T.1) ⟨x.2.1, Nat.lt_succ_self _⟩ [1, 1, 1, 1, 1, 0]) (fun A5 y5 => ?_)
  refine goN 4 ok_X5_init ?_
  refine And.intro ⟨y5.c (List.mem_cons_self ..), by rw [y5.ai (List.mem_cons_self ..)]; exact ix_of (k := 5) rfl (by decide) (by decide)⟩ ?_
  rw [y5.ai (List.mem_cons_self ..)]
  refine Ex.kx (y5.t (a := T.1) ⟨x.2.1, Nat.lt_succ_self _⟩ [1, 1, 1, 1, 1, 1]) (fun A6 y6 => ?_)
  refine goN 1 ok_X5_init ?_
  refine And.intro (y6.c (List.mem_cons_of_mem _ hm)) ?_
  refine Ex.kx (y6.sr (f := 384) ⟨a1, show a < T.1 + 1 by omega⟩ T.1) (fun A7 y7 => ?_)
  refine goN 3 ok_X5_init ?_
  refine And.intro (y7.c (List.mem_cons_of_mem _ hm)) ?_
  refine Ex.kx (y7.s (f := 385) ⟨a1, show a < T.1 + 1 by omega⟩ 0) (fun A8 y8 => ?_)
  refine goN 3 ok_X5_init ?_
  refine And.intro (y8.c (List.mem_cons_of_mem _ hm)) ?_
  refine Ex.kx (y8.s (f := 386) ⟨a1, show a < T.1 + 1 by omega⟩ 0) (fun A9 y9 => ?_)
  refine goN 3 ok_X5_init ?_
  refine And.intro (y9.c (List.mem_cons_of_mem _ hm)) ?_
  refine Ex.kx (y9.s (f := 387) ⟨a1, show a < T.1 + 1 by omega⟩ 0) (fun A10 y10 => ?_)
  refine goN 3 ok_X5_init ?_
  refine And.intro (y10.c (List.mem_cons_of_mem _ hm)) ?_
  refine Ex.kx (y10.s (f := 388) ⟨a1, show a < T.1 + 1 by omega⟩ 8) (fun A11 y11 => ?_)
  refine goN 3 ok_X5_init ?_
  refine And.intro (y11.c (List.mem_cons_of_mem _ hm)) ?_
  refine Ex.kx (y11.s (f := 389) ⟨a1, show a < T.1 + 1 by omega⟩ 24) (fun A12 y12 => ?_)
  refine goN 3 ok_X5_init ?_
  refine And.intro (y12.c (List.mem_cons_of_mem _ hm)) ?_
  refine Ex.kx (y12.sl (f := 390) ⟨a1, show a < T.1 + 1 by omega⟩ 0) (fun A13 y13 => ?_)
  refine goN 1 ok_X5_init ?_
  exact q _ y13
def tbWhole (T : TB) (a : Nat) : TB := tbA (tbA (tbR (tbR (tbS (tbN (T) 1 [2] []) 0 T.1 0) 1 T.1 1) 512 a T.1) 513 a 8) 514 a 8
theorem i_whole (x : Tok h0 T h) (a1 : 32 ≤ a) (a2 : a < T.1) (hm : (a, 9) ∈ T.2.1) (q : ∀ h', Tok h0 (tbWhole T a) h' → Q none h') : Con l w false (d + 4) HX7_init [vr a] h 3 19 Q := by
  refine Con.of ok_X7_init (nones := []) rfl (by simp) ?_
  refine goN 2 ok_X7_init ?_
  refine And.intro (show ¬ a = 0 by omega) ?_
  refine goN 4 ok_X7_init ?_
  refine ⟨2, 16, rfl, rfl, ?_⟩
  have yw := x.nw 1 [2] []
  have e0 := x.1
  generalize nW h 1 = A at yw ⊢
  rw [e0]
  have y1 := yw.c (List.mem_cons_self ..)
  refine And.intro y1 ?_
  refine Cal.z (i_list y1 (by have := x.2.1; omega) ?_)
  refine Ex.kx ((yw.s (f := 0) (a := T.1) ⟨x.2.1, Nat.lt_succ_self _⟩ 0).sr (f := 1) (a := T.1) ⟨x.2.1, Nat.lt_succ_self _⟩ 1) (fun A0 y0 => ?_)
  refine goN 1 ok_X7_init ?_
  refine And.intro (y0.c (List.mem_cons_of_mem _ hm)) ?_
  refine Ex.kx (y0.sr (f := 512) ⟨a1, show a < T.1 + 1 by omega⟩ T.1) (fun A1 y1 => ?_)
  refine goN 4 ok_X7_init ?_
  refine And.intro (by decide) (And.intro (by decide) ⟨1, 8, rfl, rfl, ?_⟩)
  refine And.intro (cnw (y1.z (show a < T.1 + 1 by omega)) (y1.c (List.mem_cons_of_mem _ hm))) ?_
  refine Ex.kx (y1.ar (f := 513) ⟨a1, show a < T.1 + 1 by omega⟩ 8) (fun A2 y2 => ?_)
  refine goN 4 ok_X7_init ?_
  refine And.intro (by decide) (And.intro (by decide) ⟨0, 0, rfl, rfl, ?_⟩)
  refine And.intro (cnw (y2.z (show a < T.1 + 1 + 1 by omega)) (y2.c (List.mem_cons_of_mem _ (List.mem_cons_of_mem _ hm)))) ?_
  refine Ex.kx (y2.ar (f := 514) ⟨a1, show a < T.1 + 1 + 1 by omega⟩ 8) (fun A3 y3 => ?_)
  refine goN 1 ok_X7_init ?_
  exact q _ y3
end CT

