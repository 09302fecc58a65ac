/-! ===== a heap told by lists: for the constructors ===== -/
/-- next address, tags, int fields, long fields, references, int rows, long rows -/
abbrev TB : Type := Nat × List (Nat × Nat) × List (Nat × Nat × Int32) × List (Nat × Nat × Int64) × List (Nat × Nat × Nat) × List (Nat × List Int32) × List (Nat × List Int64)
def Tok (h0 : AH) (T : TB) (h : AH) : Prop :=
  hZ h = T.1 ∧ 32 ≤ T.1 ∧ (∀ n, n < 32 → SM h0 h n) ∧ (∀ q ∈ T.2.1, q.1 < T.1 ∧ hC h q.1 = q.2) ∧ (∀ q ∈ T.2.2.1, q.2.1 < T.1 ∧ hI h q.1 q.2.1 = q.2.2) ∧ (∀ q ∈ T.2.2.2.1, q.2.1 < T.1 ∧ hL h q.1 q.2.1 = q.2.2) ∧
  (∀ q ∈ T.2.2.2.2.1, q.2.1 < T.1 ∧ hR h q.1 q.2.1 = q.2.2) ∧ (∀ q ∈ T.2.2.2.2.2.1, q.1 < T.1 ∧ aI h q.1 = q.2) ∧ (∀ q ∈ T.2.2.2.2.2.2, q.1 < T.1 ∧ aL h q.1 = q.2)
def tbN (T : TB) (t : Nat) (fs gs : List Nat) : TB := (T.1 + 1, (T.1, t) :: T.2.1, fs.map (fun f => (f, T.1, (0 : Int32))) ++ T.2.2.1, gs.map (fun f => (f, T.1, (0 : Int64))) ++ T.2.2.2.1, T.2.2.2.2.1, T.2.2.2.2.2.1, T.2.2.2.2.2.2)
def tbS (T : TB) (f a : Nat) (v : Int32) : TB := (T.1, T.2.1, (f, a, v) :: T.2.2.1.filter (fun q => !(Nat.beq q.1 f && Nat.beq q.2.1 a)), T.2.2.2.1, T.2.2.2.2.1, T.2.2.2.2.2.1, T.2.2.2.2.2.2)
def tbL (T : TB) (f a : Nat) (v : Int64) : TB := (T.1, T.2.1, T.2.2.1, (f, a, v) :: T.2.2.2.1.filter (fun q => !(Nat.beq q.1 f && Nat.beq q.2.1 a)), T.2.2.2.2.1, T.2.2.2.2.2.1, T.2.2.2.2.2.2)
def tbR (T : TB) (f a v : Nat) : TB := (T.1, T.2.1, T.2.2.1, T.2.2.2.1, (f, a, v) :: T.2.2.2.2.1.filter (fun q => !(Nat.beq q.1 f && Nat.beq q.2.1 a)), T.2.2.2.2.2.1, T.2.2.2.2.2.2)
def tbT (T : TB) (a : Nat) (v : List Int32) : TB := (T.1, T.2.1, T.2.2.1, T.2.2.2.1, T.2.2.2.2.1, (a, v) :: T.2.2.2.2.2.1.filter (fun q => !Nat.beq q.1 a), T.2.2.2.2.2.2)
def tbU (T : TB) (a : Nat) (v : List Int64) : TB := (T.1, T.2.1, T.2.2.1, T.2.2.2.1, T.2.2.2.2.1, T.2.2.2.2.2.1, (a, v) :: T.2.2.2.2.2.2.filter (fun q => !Nat.beq q.1 a))
theorem beq_f2 {a b c e : Nat} (h : (!(Nat.beq a b && Nat.beq c e)) = true) : ¬ (a = b ∧ c = e) := by
  intro z
  rw [z.1, z.2, Nat.beq_refl, Nat.beq_refl] at h
  exact absurd h (by decide)
theorem beq_f1 {a b : Nat} (h : (!Nat.beq a b) = true) : ¬ a = b := by
  intro z
  rw [z, Nat.beq_refl] at h
  exact absurd h (by decide)
section TK
variable {h0 h : AH} {T : TB} {f a : Nat}
theorem nW_L (h : AH) (t g : Nat) : hL (nW h t) g (hZ h) = 0 := by show (if hZ h = hZ h then 0 else _) = _; rw [if_pos rfl]
theorem Tok.nw (x : Tok h0 T h) (t : Nat) (fs gs : List Nat) : Tok h0 (tbN T t fs gs) (nW h t) := by
  obtain ⟨x1, x2, x3, x4, x5, x6, x7, x8, x9⟩ := x
  have sm : ∀ n, n < T.1 → SM h (nW h t) n := fun n hn => (SM.rf h n).nw (by omega)
  refine ⟨by show hZ h + 1 = T.1 + 1; omega, by show 32 ≤ T.1 + 1; omega, fun n hn => (x3 n hn).nw (by omega), fun q hq => ?_, fun q hq => ?_, fun q hq => ?_, fun q hq => ?_, fun q hq => ?_, fun q hq => ?_⟩
  · rcases List.mem_cons.mp hq with z | z
    · subst z; exact ⟨Nat.lt_succ_self _, by show hC (nW h t) T.1 = t; rw [← x1]; exact nW_C h t⟩
    · exact ⟨Nat.lt_succ_of_lt (x4 q z).1, by rw [(sm _ (x4 q z).1).1]; exact (x4 q z).2⟩
  · rcases List.mem_append.mp hq with z | z
    · obtain ⟨g, -, e⟩ := List.mem_map.mp z
      subst e; exact ⟨Nat.lt_succ_self _, by show hI (nW h t) g T.1 = 0; rw [← x1]; exact nW_I h t g⟩
    · exact ⟨Nat.lt_succ_of_lt (x5 q z).1, by rw [(sm _ (x5 q z).1).2.1]; exact (x5 q z).2⟩
  · rcases List.mem_append.mp hq with z | z
    · obtain ⟨g, -, e⟩ := List.mem_map.mp z
      subst e; exact ⟨Nat.lt_succ_self _, by show hL (nW h t) g T.1 = 0; rw [← x1]; exact nW_L h t g⟩
    · exact ⟨Nat.lt_succ_of_lt (x6 q z).1, by rw [(sm _ (x6 q z).1).2.2.1]; exact (x6 q z).2⟩
  · exact ⟨Nat.lt_succ_of_lt (x7 q hq).1, by rw [(sm _ (x7 q hq).1).2.2.2.1]; exact (x7 q hq).2⟩
  · exact ⟨Nat.lt_succ_of_lt (x8 q hq).1, by rw [(sm _ (x8 q hq).1).2.2.2.2.1]; exact (x8 q hq).2⟩
  · exact ⟨Nat.lt_succ_of_lt (x9 q hq).1, by rw [(sm _ (x9 q hq).1).2.2.2.2.2.1]; exact (x9 q hq).2⟩
theorem Tok.s (x : Tok h0 T h) (ha : 32 ≤ a ∧ a < T.1) (v : Int32) : Tok h0 (tbS T f a v) (sI h f a v) := by
  obtain ⟨x1, x2, x3, x4, x5, x6, x7, x8, x9⟩ := x
  refine ⟨x1, x2, fun n hn => (x3 n hn).s (by omega), x4, fun q hq => ?_, x6, x7, x8, x9⟩
  rcases List.mem_cons.mp hq with z | z
  · subst z; exact ⟨ha.2, by rw [hI_sI, if_pos ⟨rfl, rfl⟩]⟩
  · obtain ⟨z1, z2⟩ := List.mem_filter.mp z
    exact ⟨(x5 q z1).1, by rw [hI_sI, if_neg (beq_f2 z2)]; exact (x5 q z1).2⟩
theorem Tok.sl (x : Tok h0 T h) (ha : 32 ≤ a ∧ a < T.1) (v : Int64) : Tok h0 (tbL T f a v) (sL h f a v) := by
  obtain ⟨x1, x2, x3, x4, x5, x6, x7, x8, x9⟩ := x
  refine ⟨x1, x2, fun n hn => (x3 n hn).sl (by omega), x4, x5, fun q hq => ?_, x7, x8, x9⟩
  rcases List.mem_cons.mp hq with z | z
  · subst z; exact ⟨ha.2, by rw [hL_sL, if_pos ⟨rfl, rfl⟩]⟩
  · obtain ⟨z1, z2⟩ := List.mem_filter.mp z
    exact ⟨(x6 q z1).1, by rw [hL_sL, if_neg (beq_f2 z2)]; exact (x6 q z1).2⟩
theorem Tok.sr (x : Tok h0 T h) (ha : 32 ≤ a ∧ a < T.1) (v : Nat) : Tok h0 (tbR T f a v) (sR h f a v) := by
  obtain ⟨x1, x2, x3, x4, x5, x6, x7, x8, x9⟩ := x
  refine ⟨x1, x2, fun n hn => (x3 n hn).sr (by omega), x4, x5, x6, fun q hq => ?_, x8, x9⟩
  rcases List.mem_cons.mp hq with z | z
  · subst z; exact ⟨ha.2, by rw [hR_sR, if_pos ⟨rfl, rfl⟩]⟩
  · obtain ⟨z1, z2⟩ := List.mem_filter.mp z
    exact ⟨(x7 q z1).1, by rw [hR_sR, if_neg (beq_f2 z2)]; exact (x7 q z1).2⟩
theorem Tok.t (x : Tok h0 T h) (ha : 32 ≤ a ∧ a < T.1) (v : List Int32) : Tok h0 (tbT T a v) (tI h a v) := by
  obtain ⟨x1, x2, x3, x4, x5, x6, x7, x8, x9⟩ := x
  refine ⟨x1, x2, fun n hn => (x3 n hn).t (by omega), x4, x5, x6, x7, fun q hq => ?_, x9⟩
  rcases List.mem_cons.mp hq with z | z
  · subst z; exact ⟨ha.2, by rw [aI_tI, if_pos rfl]⟩
  · obtain ⟨z1, z2⟩ := List.mem_filter.mp z
    exact ⟨(x8 q z1).1, by rw [aI_tI, if_neg (beq_f1 z2)]; exact (x8 q z1).2⟩
theorem Tok.tl (x : Tok h0 T h) (ha : 32 ≤ a ∧ a < T.1) (v : List Int64) : Tok h0 (tbU T a v) (tL h a v) := by
  obtain ⟨x1, x2, x3, x4, x5, x6, x7, x8, x9⟩ := x
  refine ⟨x1, x2, fun n hn => (x3 n hn).tl (by omega), x4, x5, x6, x7, x8, fun q hq => ?_⟩
  rcases List.mem_cons.mp hq with z | z
  · subst z; exact ⟨ha.2, by rw [aL_tL, if_pos rfl]⟩
  · obtain ⟨z1, z2⟩ := List.mem_filter.mp z
    exact ⟨(x9 q z1).1, by rw [aL_tL, if_neg (beq_f1 z2)]; exact (x9 q z1).2⟩
/-- a row of n zeros at field f of a: ints, longs, booleans -/
def tbA (T : TB) (f a n : Nat) : TB := tbR (tbT (tbN T 101 [] []) T.1 (List.replicate n 0)) f a T.1
def tbB (T : TB) (f a n : Nat) : TB := tbR (tbU (tbN T 102 [] []) T.1 (List.replicate n 0)) f a T.1
def tbZ (T : TB) (f a n : Nat) : TB := tbR (tbT (tbN T 103 [] []) T.1 (List.replicate n 0)) f a T.1
theorem Tok.ar (x : Tok h0 T h) (ha : 32 ≤ a ∧ a < T.1) (n : Nat) : Tok h0 (tbA T f a n) (sR (tI (nW h 101) (hZ h) (List.replicate n 0)) f a (hZ h)) := by
  have e := x.1
  rw [e]
  exact ((x.nw 101 [] []).t ⟨x.2.1, Nat.lt_succ_self _⟩ _).sr ⟨ha.1, Nat.lt_succ_of_lt ha.2⟩ _
theorem Tok.br (x : Tok h0 T h) (ha : 32 ≤ a ∧ a < T.1) (n : Nat) : Tok h0 (tbB T f a n) (sR (tL (nW h 102) (hZ h) (List.replicate n 0)) f a (hZ h)) := by
  have e := x.1
  rw [e]
  exact ((x.nw 102 [] []).tl ⟨x.2.1, Nat.lt_succ_self _⟩ _).sr ⟨ha.1, Nat.lt_succ_of_lt ha.2⟩ _
theorem Tok.zr (x : Tok h0 T h) (ha : 32 ≤ a ∧ a < T.1) (n : Nat) : Tok h0 (tbZ T f a n) (sR (tI (nW h 103) (hZ h) (List.replicate n 0)) f a (hZ h)) := by
  have e := x.1
  rw [e]
  exact ((x.nw 103 [] []).t ⟨x.2.1, Nat.lt_succ_self _⟩ _).sr ⟨ha.1, Nat.lt_succ_of_lt ha.2⟩ _
theorem cnw {t k : Nat} (hz : a < hZ h) (hc : hC h a = k) : hC (nW h t) a = k := by rw [hC_nW (by omega)]; exact hc
theorem Tok.z (x : Tok h0 T h) {a : Nat} (ha : a < T.1) : a < hZ h := by rw [x.1]; exact ha
theorem Tok.c (x : Tok h0 T h) {a t : Nat} (hm : (a, t) ∈ T.2.1) : hC h a = t := (x.2.2.2.1 _ hm).2
theorem Tok.i (x : Tok h0 T h) {f a : Nat} {v : Int32} (hm : (f, a, v) ∈ T.2.2.1) : hI h f a = v := (x.2.2.2.2.1 _ hm).2
theorem Tok.l (x : Tok h0 T h) {f a : Nat} {v : Int64} (hm : (f, a, v) ∈ T.2.2.2.1) : hL h f a = v := (x.2.2.2.2.2.1 _ hm).2
theorem Tok.r (x : Tok h0 T h) {f a v : Nat} (hm : (f, a, v) ∈ T.2.2.2.2.1) : hR h f a = v := (x.2.2.2.2.2.2.1 _ hm).2
theorem Tok.ai (x : Tok h0 T h) {a : Nat} {v : List Int32} (hm : (a, v) ∈ T.2.2.2.2.2.1) : aI h a = v := (x.2.2.2.2.2.2.2.1 _ hm).2
theorem Tok.al (x : Tok h0 T h) {a : Nat} {v : List Int64} (hm : (a, v) ∈ T.2.2.2.2.2.2) : aL h a = v := (x.2.2.2.2.2.2.2.2 _ hm).2
end TK
section TKE
variable {l : Launch} {w : WD} {d : Nat} {h : AH} {Q : Option AV → AH → Prop}
/-- both objects stand: on in laid mode -/
theorem Ex.tm {X : MD} {pc : Nat} {ll : List (Option AV)} {st : List AV} {bc bs : Nat} (hy : Lay h) (k : Ex l w true X d Q pc ll st h bc bs) : Ex l w false X d Q pc ll st h bc bs := by
  intro p e R s m args below meth c H locs cells slots ls hCx hf hl hcl0 hsl0 hS hL hlen hva
  intro T hT XX
  obtain ⟨t, h1, o, h2, h3, ⟨v, h', g1, g2, g3⟩, h5⟩ := k p e R s m args below meth c H locs cells slots ls hCx hf hl hcl0 hsl0 ⟨hS.1, hS.2.1, hS.2.2.1, fun _ => hy⟩ hL hlen hva T hT XX
  exact ⟨t, h1, o, h2, h3, ⟨v, h', g1, g2, ⟨⟨g3.1.1, g3.1.2.1, g3.1.2.2.1, fun z => by cases z⟩, g3.2⟩⟩, h5⟩
end TKE

