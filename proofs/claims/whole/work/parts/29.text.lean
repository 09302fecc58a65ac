/-! ===== texts: runs, numbers, words; clauses as pure rows (a fault, or where it goes on) ===== -/
def tAt (tx : List Int32) (i : Nat) : Int32 := tx.getD i (-1)
def runF (P : Int32 → Bool) (tx : List Int32) : Nat → Nat → Nat
  | 0, i => i
  | n + 1, i => if P (tAt tx i) = true then runF P tx n (i + 1) else i
def run (P : Int32 → Bool) (tx : List Int32) (i : Nat) : Nat := runF P tx (tx.length - i) i
def isSp (c : Int32) : Bool := decide (c = 32)
def isLt (c : Int32) : Bool := decide (97 ≤ c ∧ c ≤ 122)
def isDg (c : Int32) : Bool := decide (48 ≤ c ∧ c ≤ 57)
def skp (tx : List Int32) (i : Nat) : Nat := run isSp tx i
theorem tAt_out {tx : List Int32} {i : Nat} (h : tx.length ≤ i) : tAt tx i = -1 := by
  unfold tAt
  rw [List.getD_eq_getElem?_getD, List.getElem?_eq_none h]
  rfl
theorem tAt_in {tx : List Int32} {i : Nat} (h : i < tx.length) : tAt tx i = tx.getD i 0 := by
  unfold tAt
  rw [List.getD_eq_getElem?_getD, List.getD_eq_getElem?_getD, List.getElem?_eq_getElem h]
  rfl
section Run
variable {P : Int32 → Bool} {tx : List Int32} {i : Nat}
theorem run_in (hP : P (-1) = false) (h : P (tAt tx i) = true) : i < tx.length := by
  rcases Nat.lt_or_ge i tx.length with z | z
  · exact z
  · rw [tAt_out z, hP] at h; cases h
theorem run_step (hP : P (-1) = false) (h : P (tAt tx i) = true) : run P tx i = run P tx (i + 1) := by
  have := run_in hP h
  unfold run
  rw [show tx.length - i = (tx.length - (i + 1)) + 1 by omega, runF, if_pos h]
theorem run_stop (h : P (tAt tx i) = false) : run P tx i = i := by
  unfold run
  cases tx.length - i with
  | zero => rfl
  | succ n => rw [runF, if_neg (by rw [h]; decide)]
theorem run_at (hP : P (-1) = false) : ∀ (n i : Nat), tx.length - i = n → P (tAt tx (run P tx i)) = false ∧ i ≤ run P tx i ∧ (i ≤ tx.length → run P tx i ≤ tx.length) ∧ ∀ k, i ≤ k → k < run P tx i → P (tAt tx k) = true := by
  intro n
  induction n with
  | zero =>
    intro i hi
    have e : P (tAt tx i) = false := by rw [tAt_out (by omega), hP]
    rw [run_stop e]
    exact ⟨e, Nat.le_refl _, fun z => z, fun k h1 h2 => by omega⟩
  | succ n ih =>
    intro i hi
    cases c : P (tAt tx i) with
    | false =>
      rw [run_stop c]
      exact ⟨c, Nat.le_refl _, fun z => z, fun k h1 h2 => by omega⟩
    | true =>
      rw [run_step hP c]
      obtain ⟨a, b, d, e⟩ := ih (i + 1) (by omega)
      refine ⟨a, by omega, fun z => d (by omega), fun k h1 h2 => ?_⟩
      by_cases z : k = i
      · subst z; exact c
      · exact e k (by omega) h2
theorem run_end (hP : P (-1) = false) (i : Nat) : P (tAt tx (run P tx i)) = false := (run_at hP _ i rfl).1
theorem run_ge (hP : P (-1) = false) (i : Nat) : i ≤ run P tx i := (run_at hP _ i rfl).2.1
theorem run_le (hP : P (-1) = false) (h : i ≤ tx.length) : run P tx i ≤ tx.length := (run_at hP _ i rfl).2.2.1 h
theorem run_all (hP : P (-1) = false) {k : Nat} (h1 : i ≤ k) (h2 : k < run P tx i) : P (tAt tx k) = true := (run_at hP _ i rfl).2.2.2 k h1 h2
theorem run_run (hP : P (-1) = false) (i : Nat) : run P tx (run P tx i) = run P tx i := run_stop (run_end hP i)
end Run
theorem skp_ge (tx : List Int32) (i : Nat) : i ≤ skp tx i := run_ge rfl i
theorem skp_le {tx : List Int32} {i : Nat} (h : i ≤ tx.length) : skp tx i ≤ tx.length := run_le rfl h
theorem skp_skp (tx : List Int32) (i : Nat) : skp tx (skp tx i) = skp tx i := run_run rfl i
/-- a number's value, n figures from i on, as the reference reckons it -/
def rvN (tx : List Int32) (i : Nat) : Nat → Int32
  | 0 => 0
  | n + 1 => if rvN tx i n ≤ 999 then 10 * rvN tx i n + tAt tx (i + n) - 48 else rvN tx i n
abbrev PR (α : Type) : Type := (Int32 × Int32) ⊕ (Nat × α)
def pBd {α β : Type} (x : PR α) (f : Nat → α → PR β) : PR β := match x with
  | .inl e => .inl e
  | .inr (i, a) => f i a
def pNum (tx : List Int32) (lo hi : Int32) (i : Nat) : PR Int32 :=
  if run isDg tx (skp tx i) = skp tx i then .inl (1, nI (skp tx i)) else
  if run isDg tx (skp tx i) - skp tx i < 4 ∧ (lo ≤ rvN tx (skp tx i) (run isDg tx (skp tx i) - skp tx i) ∧ rvN tx (skp tx i) (run isDg tx (skp tx i) - skp tx i) ≤ hi) then .inr (run isDg tx (skp tx i), rvN tx (skp tx i) (run isDg tx (skp tx i) - skp tx i)) else .inl (2, nI (skp tx i))
def wEq (tx : List Int32) (b : Nat) (ws : List Int32) : Nat → Bool
  | 0 => true
  | k + 1 => wEq tx b ws k && decide (tAt tx (b + k) = ws.getD k 0)
/-- just this word stands at b -/
def wAt (tx : List Int32) (b : Nat) (ws : List Int32) : Bool := decide (run isLt tx b - b = ws.length) && wEq tx b ws ws.length
def pWord (tx : List Int32) (ws : List Int32) (i : Nat) : PR Unit := if wAt tx (skp tx i) ws = true then .inr (run isLt tx (skp tx i), ()) else .inl (1, nI (skp tx i))
def pSign (tx : List Int32) (c : Int32) (i : Nat) : PR Unit := if tAt tx (skp tx i) = c then .inr (skp tx i + 1, ()) else .inl (1, nI (skp tx i))
def wNever : List Int32 := [110, 101, 118, 101, 114]
def wLet : List Int32 := [108, 101, 116]
def wEach : List Int32 := [101, 97, 99, 104]
def wNight : List Int32 := [110, 105, 103, 104, 116]
def wPat : List Int32 := [112, 97, 116, 105, 101, 110, 99, 101]
def wClo : List Int32 := [99, 108, 111, 116, 104, 101, 115]
def wLink : List Int32 := [108, 105, 110, 107]
def wRow : List Int32 := [114, 111, 119]
def wBy : List Int32 := [98, 121]
def wTimes : List Int32 := [116, 105, 109, 101, 115]
def wEver : List Int32 := [101, 118, 101, 114]
/-- rights being read, and what was told already -/
abbrev NR : Type := RT × (Nat → Bool)
def tdOn (t : Nat → Bool) (k : Nat) : Nat → Bool := fun j => if j = k then true else t j
def pNever (tx : List Int32) (R : NR) (i : Nat) : PR NR := pBd (pNum tx 0 5 i) (fun j d => if R.2 d.toNatClampNeg = true then .inl (3, nI (skp tx i)) else .inr (j, ((R.1.1.set d.toNatClampNeg 1, R.1.2), tdOn R.2 d.toNatClampNeg)))
def pLet (tx : List Int32) (R : NR) (i : Nat) : PR NR := pBd (pNum tx 0 5 i) (fun j d => if R.2 (6 + d.toNatClampNeg) = true then .inl (3, nI (skp tx i)) else
  pBd (pWord tx wEach j) (fun j2 _ => pBd (pNum tx 1 99 j2) (fun j3 v => .inr (j3, ((R.1.1, R.1.2.1.set d.toNatClampNeg v, R.1.2.2), tdOn R.2 (6 + d.toNatClampNeg))))))
def pNight (tx : List Int32) (R : NR) (b i : Nat) : PR NR := if R.2 12 = true then .inl (3, nI b) else pBd (pNum tx 1 12 i) (fun j v => .inr (j, ((R.1.1, R.1.2.1, v, R.1.2.2.2), tdOn R.2 12)))
def pPat (tx : List Int32) (R : NR) (b i : Nat) : PR NR := if R.2 13 = true then .inl (3, nI b) else pBd (pNum tx 0 999 i) (fun j v => .inr (j, ((R.1.1, R.1.2.1, R.1.2.2.1, v, R.1.2.2.2.2), tdOn R.2 13)))
def pCloF (tx : List Int32) : Nat → Int64 → Nat → PR Int64
  | 0, _, _ => .inl (1, 0)
  | n + 1, cl, i => pBd (pNum tx 0 59 i) (fun j p => if (cl >>> (p.toInt64 &&& 63)) &&& 1 = 0 then
      (if tAt tx (skp tx j) = 44 then pCloF tx n (cl ||| (1 <<< (p.toInt64 &&& 63))) (skp tx j + 1) else .inr (skp tx j, cl ||| (1 <<< (p.toInt64 &&& 63)))) else .inl (4, nI (skp tx i)))
def pClo (tx : List Int32) (R : NR) (b i : Nat) : PR NR := if R.2 14 = true then .inl (3, nI b) else pBd (pCloF tx (tx.length + 1) R.1.2.2.2.2 i) (fun j cl => .inr (j, ((R.1.1, R.1.2.1, R.1.2.2.1, R.1.2.2.2.1, cl), tdOn R.2 14)))
def pBody (tx : List Int32) (R : NR) (i : Nat) : PR NR :=
  if wAt tx (skp tx i) wNever = true then pNever tx R (run isLt tx (skp tx i)) else
  if wAt tx (skp tx i) wLet = true then pLet tx R (run isLt tx (skp tx i)) else
  if wAt tx (skp tx i) wNight = true then pNight tx R (skp tx i) (run isLt tx (skp tx i)) else
  if wAt tx (skp tx i) wPat = true then pPat tx R (skp tx i) (run isLt tx (skp tx i)) else
  if wAt tx (skp tx i) wClo = true then pClo tx R (skp tx i) (run isLt tx (skp tx i)) else .inl (1, nI (skp tx i))
def pRight (tx : List Int32) (R : NR) (i : Nat) : PR NR := pBd (pBody tx R i) (fun j R' => pBd (pSign tx 59 j) (fun j2 _ => .inr (j2, R')))
/-- rights: so many clauses -/
def pReadF (tx : List Int32) : Nat → Nat → NR → Nat → PR (Nat × NR)
  | 0, _, _, _ => .inl (1, 0)
  | f + 1, n, R, i => if skp tx i < tx.length then pBd (pRight tx R i) (fun j R' => pReadF tx f (n + 1) R' j) else .inr (i, n, R)
def rt0 : RT := ([0, 0, 0, 0, 0, 0], [1, 1, 1, 1, 1, 1], 8, 24, 0)
def nr0 : NR := (rt0, fun _ => false)
def readF (S : SG) : Int32 × SG := match pReadF (gTx S) ((gTx S).length + 1) 0 nr0 0 with
  | .inl (k, p) => (-10 - k, sTx (sFl S p) [])
  | .inr (_, n, R) => (nI n, sTx (sRt (sFl S (-1)) R.1) [])
def pLinkB (tx : List Int32) (i : Nat) : PR CLS := pBd (pNum tx 0 999 i) (fun j v => .inr (j, (v, 0, 1)))
def pEverB (tx : List Int32) (i : Nat) : PR CLS := pBd (pNum tx 0 999 i) (fun j v => pBd (pWord tx wBy j) (fun j2 _ => pBd (pNum tx 0 999 j2) (fun j3 b => .inr (j3, (v, b, -1)))))
def pRowB (tx : List Int32) (i : Nat) : PR CLS := pBd (pNum tx 0 999 i) (fun j v => pBd (pWord tx wBy j) (fun j2 _ => pBd (pNum tx 0 999 j2) (fun j3 b => pBd (pWord tx wTimes j3) (fun j4 _ => pBd (pNum tx 0 999 j4) (fun j5 m => .inr (j5, (v, b, m)))))))
def pClsB (tx : List Int32) (b : Nat) : PR CLS := pBd (if wAt tx b wLink = true then pLinkB tx (run isLt tx b) else if wAt tx b wEver = true then pEverB tx (run isLt tx b) else pRowB tx (run isLt tx b)) (fun j c => pBd (pSign tx 59 j) (fun j2 _ => .inr (j2, c)))
def isCls (tx : List Int32) (b : Nat) : Bool := wAt tx b wLink || (wAt tx b wRow || wAt tx b wEver)
def pProgF (tx : List Int32) : Nat → List CLS → Nat → PR (List CLS)
  | 0, _, _ => .inl (1, 0)
  | f + 1, cs, i => if skp tx i < tx.length then (if isCls tx (skp tx i) = true then (if cs.length < 8 then pBd (pClsB tx (skp tx i)) (fun j c => pProgF tx f (cs ++ [c]) j) else .inl (5, nI (skp tx i))) else .inl (1, nI (skp tx i))) else .inr (i, cs)
def programF (S : SG) (p : Int32) : Int32 × SG := match ixO (gDs S).length p with
  | none => (-1001, S)
  | some p => if nI (gTx S).length ≤ 120 then (match pProgF (gTx S) ((gTx S).length + 1) [] 0 with
    | .inl (k, pl) => (-10 - k, sTx (sFl S pl) [])
    | .inr (_, cs) => (nI cs.length, sTx (sPr (sFl S (-1)) ((gPr S).set p cs)) [])) else (-1003, S)
/-- the bytes of a feed -/
def fdB (bytes : Int64) : Nat → List Int32
  | 0 => []
  | n + 1 => (bytes >>> (((8 : Int32) * nI n).toInt64 &&& 63) &&& 255).toInt32 :: fdB bytes n
def feedF (S : SG) (n : Int32) (bytes : Int64) : Int32 × SG := if 1 ≤ n ∧ n ≤ 8 then (if nI (gTx S).length + n ≤ 200 then (nI (gTx S ++ fdB bytes n.toNatClampNeg).length, sTx S (gTx S ++ fdB bytes n.toNatClampNeg)) else (-1004, S)) else (-1002, S)

