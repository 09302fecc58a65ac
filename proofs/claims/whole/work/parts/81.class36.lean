/-! ===== the class: programs are read ===== -/
def pW1 (H : AH) (r m : Nat) (a : Int32) : AH := tI H r ((aI H r).set m a)
def pW (H : AH) (q m : Nat) (a b c : Int32) : AH := pW1 (pW1 (pW1 H (hR H 320 q) m a) (hR H 321 q) m b) (hR H 322 q) m c
/-- but the cells of the program that is read -/
def PB (q : Nat) (h h' : AH) : Prop := (hC h' = hC h ∧ hR h' = hR h ∧ hL h' = hL h ∧ aL h' = aL h ∧ aR h' = aR h ∧ hZ h' = hZ h) ∧ (∀ f x, ¬ (x = q ∧ (f = 323 ∨ f = 324)) → hI h' f x = hI h f x) ∧ (∀ x, (∀ j, j < 3 → ¬ x = hR h (320 + j) q) → aI h' x = aI h x) ∧ ∀ x, (aI h' x).length = (aI h x).length
/-- a program's rows are three, and its own -/
def PD (q : Nat) (h : AH) : Prop := (∀ i j, i < 3 → j < 3 → hR h (320 + i) q = hR h (320 + j) q → i = j) ∧ ∀ j, j < 3 → (59 ≤ hR h (320 + j) q ∧ hR h (320 + j) q ≤ 61) ∨ 88 ≤ hR h (320 + j) q
section C36
variable {l : Launch} {w : WD} {d : Nat} {h h0 H : AH} {Q : Option AV → AH → Prop} {tx : List Int32} {i j q m : Nat} {k p : Int32} {cs : List CLS}
theorem tH_s2 {f : Nat} {v : Int32} {a : Nat} (hf : ¬ (450 ≤ f ∧ f ≤ 452)) : sI (tH h i k p) f a v = tH (sI h f a v) i k p := by
  unfold tH
  rw [sI_cm _ p v (by omega), sI_cm _ k v (by omega), sI_cm _ (nI i) v (by omega)]
theorem pW_tH {a b c : Int32} : pW (tH h i k p) q m a b c = tH (pW h q m a b c) i k p := rfl
theorem PB.rf (q : Nat) (h : AH) : PB q h h := ⟨⟨rfl, rfl, rfl, rfl, rfl, rfl⟩, fun _ _ _ => rfl, fun _ _ => rfl, fun _ => rfl⟩
theorem PB.s (b : PB q h0 h) {f : Nat} {v : Int32} (hf : f = 323 ∨ f = 324) : PB q h0 (sI h f q v) := ⟨b.1, fun g x hx => by
  rw [hI_sI, if_neg (fun z => hx ⟨z.2, by omega⟩)]
  exact b.2.1 g x hx, b.2.2⟩
theorem PB.t1 (b : PB q h0 h) {a : Int32} (j : Nat) (hj : j < 3) : PB q h0 (pW1 h (hR h0 (320 + j) q) m a) := ⟨b.1, b.2.1, fun x hx => by
  unfold pW1
  rw [aI_tI, if_neg (hx j hj)]
  exact b.2.2.1 x hx, fun x => by
  unfold pW1
  rw [aI_tI]
  split
  · rename_i z; rw [List.length_set, z]; exact b.2.2.2 _
  · exact b.2.2.2 x⟩
theorem PB.pw (b : PB q h0 h) {a b2 c : Int32} : PB q h0 (pW h q m a b2 c) := by
  unfold pW
  rw [b.1.2.1]
  exact ((b.t1 0 (by decide)).t1 1 (by decide)).t1 2 (by decide)
theorem PB.ms (b : PB q h0 h) (hp : PMs q h0) : PMs q h := hp.cg b.1.1 (fun j _ => by rw [b.1.2.1]) (fun j _ => b.2.2.2 _)
theorem PB.txt (b : PB q h0 h) (hd : PD q h0) (hT : TXc tx h0) : TXc tx h := by
  obtain ⟨t1, t2, t3⟩ := hT
  refine ⟨by rw [b.2.1 449 36 (by omega)]; exact t1, t2, ?_⟩
  rw [b.2.2.1 37 (fun j hj => by have := hd.2 j hj; omega)]
  exact t3
theorem PB.st (b : PB q h0 h) (hd : PD q h0) (hS : STH h0) : STH h := hS.cg (fun x _ => by rw [b.1.1]) (fun x _ => b.2.1 _ _ (by omega)) (fun x _ => by rw [b.1.2.1]) (fun x _ => by rw [b.1.2.2.2.2.1]) (fun x hx => b.2.2.1 x (fun j hj => by have := hd.2 j hj; omega))
theorem ix8 {n k : Nat} {j : Int32} (hj : j = nI k) (hn : n = 8) (hk : k < 8) : ixIn j n := ix_of hj (by omega) (by omega)
theorem c_put (hp : PMs q H) (hs : hI H 323 q = nI m) (hm : m < 8) {a b c : Int32} (qq : Q none (pW H q m a b c)) : Con l w true d HX4_put [vr q, vi a, vi b, vi c] H 0 0 Q := by
  obtain ⟨y1, ⟨y2, y3⟩, ⟨y4, y5⟩, ⟨y6, y7⟩⟩ := hp
  have n1 : (aI (pW1 H (hR H 320 q) m a) (hR H 321 q)).length = 8 := by
    unfold pW1
    rw [aI_tI]
    split
    · rw [List.length_set]; exact y3
    · exact y5
  have n2 : (aI (pW1 (pW1 H (hR H 320 q) m a) (hR H 321 q) m b) (hR H 322 q)).length = 8 := by
    unfold pW1
    rw [aI_tI]
    split
    · rw [List.length_set]; exact n1
    · rw [aI_tI]
      split
      · rw [List.length_set]; exact y3
      · exact y7
  unfold pW pW1 at qq
  unfold pW1 at n1 n2
  have em : (hI H 323 q).toNatClampNeg = m := by rw [hs, nI_clamp (by omega)]
  rw [← em] at n1 n2 qq
  refine Con.of ok_X4_put (nones := []) rfl (by simp) ?_
  refine go ok_X4_put ?_
  refine And.intro y1 ?_
  refine asAnd ?_
  rw [hs, show (8 : Int32) = nI 8 from rfl, nI_leI (by omega) (by omega)]
  refine And.intro (fun c1 => ?_) (fun c1 => ?_)
  · omega
  · refine go ok_X4_put ?_
    refine And.intro y1 ?_
    refine And.intro y1 ?_
    refine And.intro ⟨y2, ix8 hs y3 hm⟩ ?_
    refine And.intro y1 ?_
    refine And.intro y1 ?_
    refine And.intro ⟨y4, ix8 hs n1 hm⟩ ?_
    refine And.intro y1 ?_
    refine And.intro y1 ?_
    refine And.intro ⟨y6, ix8 hs n2 hm⟩ ?_
    exact qq
theorem c_takeBehind (hS : STH h) (hT : TXc tx h) (hi : i ≤ tx.length) {n : Nat} (hn : n < 11) (q1 : ∀ j v, k = 0 → pBd (pWord tx (wdS n) i) (fun j _ => pNum tx 0 999 j) = .inr (j, v) → j ≤ tx.length → Q (some (vi v)) (tH h j 0 p)) (q2 : ∀ e pl i2, k = 0 → pBd (pWord tx (wdS n) i) (fun j _ => pNum tx 0 999 j) = .inl (e, pl) → ¬ e = 0 → i2 ≤ tx.length → Q (some (vi 0)) (tH h i2 e pl)) (q3 : ∀ i2, ¬ k = 0 → i2 ≤ tx.length → Q (some (vi 0)) (tH h i2 k p)) : Con l w true (d + 7) HX4_takeBehind [vr (2 + n), vr 36] (tH h i k p) 0 0 Q := by
  refine Con.of ok_X4_takeBehind (nones := []) rfl (by simp) ?_
  refine go ok_X4_takeBehind ?_
  refine Cal.z (c_takeWord hS hT hi hn (fun j k0 e hl => ?_) (fun e pl i2 k0 e2 he hl => ?_) (fun i2 k0 hl => ?_))
  · refine go ok_X4_takeBehind ?_
    refine Cal.z (c_takeNumber hT hl (fun j2 v _ e2 hl2 => ?_) (fun e2 pl _ e3 he => ?_) (fun z => absurd rfl z))
    · refine go ok_X4_takeBehind ?_
      exact q1 j2 v k0 (by rw [e, pBd]; exact e2) hl2
    · refine go ok_X4_takeBehind ?_
      exact q2 e2 pl _ k0 (by rw [e, pBd]; exact e3) he (skp_le hl)
  · refine go ok_X4_takeBehind ?_
    refine Cal.z (c_takeNumber hT hl (fun j2 v z => absurd z he) (fun e3 pl z => absurd z he) (fun _ => ?_))
    refine go ok_X4_takeBehind ?_
    exact q2 e pl _ k0 (by rw [e2]; rfl) he (skp_le hl)
  · refine go ok_X4_takeBehind ?_
    refine Cal.z (c_takeNumber hT hl (fun j2 v z => absurd z k0) (fun e3 pl z => absurd z k0) (fun _ => ?_))
    refine go ok_X4_takeBehind ?_
    exact q3 _ k0 (skp_le hl)
theorem c_failBehindLast (hS : STH h) (hT : TXc tx h) (hi : i ≤ tx.length) (q : ∀ i2, i2 ≤ tx.length → Q none (tH h i2 (if isCls tx (skp tx i) = true then 5 else 1) (nI (skp tx i)))) : Con l w true (d + 6) HX4_failBehindLast [vr 36] (tH h i 0 p) 0 0 Q := by
  have hle := skp_le hi
  have hbb := skp_skp tx i
  have k32 : ∀ i2, i2 ≤ tx.length → isCls tx (skp tx i) = true → Ex l w true mX4_failBehindLast (d + 6) Q 32 [some (vr 36), some (vi (nI (skp tx i))), none] [] (tH h i2 0 p) 0 0 := by
    intro i2 hl e
    have q := q i2 hl
    rw [if_pos e] at q
    refine go ok_X4_failBehindLast ?_
    refine go ok_X4_failBehindLast ?_
    refine And.intro (fun c => absurd c (by decide)) (fun c => ?_)
    refine go ok_X4_failBehindLast ?_
    refine Cal.z (c_fail (fun _ => ?_) (fun z => absurd rfl z))
    refine go ok_X4_failBehindLast ?_
    exact q
  refine Con.of ok_X4_failBehindLast (nones := [none, none]) rfl (by simp) ?_
  refine go ok_X4_failBehindLast ?_
  refine Cal.z (c_nextPlace hT hi ?_)
  refine go ok_X4_failBehindLast ?_
  refine Cal.z (c_passWord hS hT hle (n := 6) (by decide) (fun _ c1 hr => ?_) (fun c1 => ?_))
  · rw [hbb] at c1 hr ⊢
    refine go ok_X4_failBehindLast ?_
    refine And.intro (fun c => ?_) (fun c => absurd c (by decide))
    exact k32 _ hr (by unfold isCls; rw [show wAt tx (skp tx i) wLink = true from c1]; rfl)
  · have c1 := c1 rfl
    rw [hbb] at c1 ⊢
    refine go ok_X4_failBehindLast ?_
    refine And.intro (fun c => absurd c (by decide)) (fun c => ?_)
    refine go ok_X4_failBehindLast ?_
    refine Cal.z (c_passWord hS hT hle (n := 7) (by decide) (fun _ c2 hr => ?_) (fun c2 => ?_))
    · rw [hbb] at c2 hr ⊢
      refine go ok_X4_failBehindLast ?_
      refine And.intro (fun c => ?_) (fun c => absurd c (by decide))
      exact k32 _ hr (by unfold isCls; rw [show wAt tx (skp tx i) wRow = true from c2, Bool.true_or, Bool.or_true])
    · have c2 := c2 rfl
      rw [hbb] at c2 ⊢
      refine go ok_X4_failBehindLast ?_
      refine And.intro (fun c => absurd c (by decide)) (fun c => ?_)
      refine go ok_X4_failBehindLast ?_
      refine Cal.z (c_passWord hS hT hle (n := 10) (by decide) (fun _ c3 hr => ?_) (fun c3 => ?_))
      · rw [hbb] at c3 hr ⊢
        refine go ok_X4_failBehindLast ?_
        refine And.intro (fun c => absurd c (by decide)) (fun c => ?_)
        exact k32 _ hr (by unfold isCls; rw [show wAt tx (skp tx i) wEver = true from c3, Bool.or_true, Bool.or_true])
      · have c3 := c3 rfl
        rw [hbb] at c3 ⊢
        have q := q (skp tx i) hle
        rw [if_neg (by unfold isCls; rw [show wAt tx (skp tx i) wLink = false from c1, show wAt tx (skp tx i) wRow = false from c2, show wAt tx (skp tx i) wEver = false from c3]; decide)] at q
        refine go ok_X4_failBehindLast ?_
        refine And.intro (fun c => ?_) (fun c => absurd c (by decide))
        refine go ok_X4_failBehindLast ?_
        refine go ok_X4_failBehindLast ?_
        refine And.intro (fun c4 => ?_) (fun c4 => absurd c4 (by decide))
        refine go ok_X4_failBehindLast ?_
        refine Cal.z (c_fail (fun _ => ?_) (fun z => absurd rfl z))
        refine go ok_X4_failBehindLast ?_
        exact q
end C36

