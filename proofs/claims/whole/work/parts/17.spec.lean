/-! ===== the state's parts set anew; what holds of a state; answers and next states ===== -/
def sNw (S : SG) (v : Int32) : SG := (v, S.2)
def sDs (S : SG) (v : List Int32) : SG := (S.1, v, S.2.2)
def sD (S : SG) (v : List LK) : SG := (S.1, S.2.1, v, S.2.2.2)
def sHs (S : SG) (v : List Int64) : SG := (S.1, S.2.1, S.2.2.1, v, S.2.2.2.2)
def sRt (S : SG) (v : RT) : SG := (S.1, S.2.1, S.2.2.1, S.2.2.2.1, v, S.2.2.2.2.2)
def sTx (S : SG) (v : List Int32) : SG := (S.1, S.2.1, S.2.2.1, S.2.2.2.1, S.2.2.2.2.1, v, S.2.2.2.2.2.2)
def sFl (S : SG) (v : Int32) : SG := (S.1, S.2.1, S.2.2.1, S.2.2.2.1, S.2.2.2.2.1, S.2.2.2.2.2.1, v, S.2.2.2.2.2.2.2)
def sPr (S : SG) (v : List (List CLS)) : SG := (S.1, S.2.1, S.2.2.1, S.2.2.2.1, S.2.2.2.2.1, S.2.2.2.2.2.1, S.2.2.2.2.2.2.1, v, S.2.2.2.2.2.2.2.2)
def sWh (S : SG) (v : List Nat) : SG := (S.1, S.2.1, S.2.2.1, S.2.2.2.1, S.2.2.2.2.1, S.2.2.2.2.2.1, S.2.2.2.2.2.2.1, S.2.2.2.2.2.2.2.1, v)
/-- a look is well made -/
def lkOK (now : Int32) (np : Nat) (x : LK) : Prop := x.1 < np ∧ (0 ≤ x.2.1 ∧ x.2.1 ≤ now) ∧ (x.2.2.1 = 0 ∨ x.2.2.1 = 1 ∨ x.2.2.1 = 2 ∨ x.2.2.1 = 3) ∧ (0 ≤ x.2.2.2.1 ∧ x.2.2.2.1 >>> 60 = 0) ∧ (-1 ≤ x.2.2.2.2 ∧ x.2.2.2.2 ≤ x.2.1) ∧ (¬ x.2.2.1 = 0 → x.2.2.2.1 = 0) ∧ (x.2.2.1 = 1 ∨ x.2.2.1 = 2 → x.2.2.2.2 = -1)
def rtOK (r : RT) : Prop := r.1.length = 6 ∧ r.2.1.length = 6 ∧ (∀ i, i < 6 → (r.1.getD i 0 = 0 ∨ r.1.getD i 0 = 1) ∧ 1 ≤ r.2.1.getD i 0 ∧ r.2.1.getD i 0 ≤ 99) ∧ (1 ≤ r.2.2.1 ∧ r.2.2.1 ≤ 12) ∧ (0 ≤ r.2.2.2.1 ∧ r.2.2.2.1 ≤ 999) ∧ (0 ≤ r.2.2.2.2 ∧ r.2.2.2.2 >>> 60 = 0)
def clOK (c : CLS) : Prop := (0 ≤ c.1 ∧ c.1 ≤ 999) ∧ (0 ≤ c.2.1 ∧ c.2.1 ≤ 999) ∧ (-1 ≤ c.2.2 ∧ c.2.2 ≤ 999)
def doorD (S : SG) (l : Nat) : Int32 := (gDs S).getD (pgD (gD S) l) 0
def Inv (S : SG) : Prop :=
  (0 ≤ gNw S ∧ gNw S ≤ 3000) ∧ (∀ i, i < (gDs S).length → ∃ k, k < 6 ∧ (gDs S).getD i 0 = nI k) ∧
  (∀ i, i < (gD S).length → lkOK (gNw S) (gDs S).length (lkD (gD S) i)) ∧
  (∀ i j, i < j → j < (gD S).length → hrD (gD S) i ≤ hrD (gD S) j ∧ (doorD S i = doorD S j → hrD (gD S) i < hrD (gD S) j)) ∧
  (gHs S).length = 3 ∧ rtOK (gRt S) ∧ (∀ i, i < (gTx S).length → 0 ≤ (gTx S).getD i 0 ∧ (gTx S).getD i 0 ≤ 255) ∧
  ((gPr S).length = 12 ∧ ∀ p k, k < (prD (gPr S) p).length → clOK ((prD (gPr S) p).getD k (0, 0, 0))) ∧
  (∀ i, i < (gWh S).length → gN (gWh S) i < (gD S).length ∧ kdD (gD S) (gN (gWh S) i) = 0) ∧
  (∀ i j, i < j → j < (gWh S).length → pgD (gD S) (gN (gWh S) i) ≠ pgD (gD S) (gN (gWh S) j))
theorem Inv.pg {S : SG} (hv : Inv S) {i : Nat} (hi : i < (gD S).length) : pgD (gD S) i < (gDs S).length := (hv.2.2.1 i hi).1
theorem Inv.door {S : SG} (hv : Inv S) {i : Nat} (hi : i < (gDs S).length) : ∃ k, k < 6 ∧ (gDs S).getD i 0 = nI k := hv.2.1 i hi
theorem Inv.wh {S : SG} (hv : Inv S) {i : Nat} (hi : i < (gWh S).length) : gN (gWh S) i < (gD S).length := (hv.2.2.2.2.2.2.2.2.1 i hi).1
def goF (S : SG) (n : Int32) : Int32 × SG := if 0 ≤ n ∧ n ≤ 500 then (if gNw S + n ≤ 3000 then (gNw S + n, sNw S (gNw S + n)) else (-1003, S)) else (-1002, S)
def pageF (S : SG) (d : Int32) : Int32 × SG := if 0 ≤ d ∧ d ≤ 5 then (if (gDs S).length = 12 then (-1004, S) else (nI (gDs S).length, sDs S (gDs S ++ [d]))) else (-1001, S)
/-- a door lets in -/
def letR (S : SG) (k : Nat) : Nat → Bool
  | 0 => decide ((gNv S).getD k 0 = 0)
  | i + 1 => letR S k i && !(decide (doorD S i = nI k) && decide (gNw S - hrD (gD S) i < (gLt S).getD k 0))
abbrev lookOK (now k : Int32) (st : Int64) (dt : Int32) : Prop := (0 ≤ k ∧ k ≤ 2) ∧ (k = 0 → (0 ≤ st ∧ st >>> 60 = 0 ∧ (-1 ≤ dt ∧ dt ≤ now)))
def newLk (S : SG) (p : Nat) (k : Int32) (st : Int64) (dt : Int32) : LK := (p, gNw S, k, if k = 0 then st else 0, if k = 0 then dt else -1)
def lookS (S : SG) (p : Nat) (k : Int32) (st : Int64) (dt : Int32) : SG := sHs (sD S (gD S ++ [newLk S p k st dt])) ((gHs S).map (fun v => v ||| (newLk S p k st dt).2.2.2.1))
def lookF (S : SG) (p k : Int32) (st : Int64) (dt : Int32) : Int32 × SG := match ixO (gDs S).length p with
  | none => (-1001, S)
  | some p => if lookOK (gNw S) k st dt then (if letR S ((gDs S).getD p 0).toNatClampNeg (gD S).length = true then (if (gD S).length = 100 then (-1004, S) else (nI (gD S).length, lookS S p k st dt)) else (-1003, S)) else (-1002, S)
def holeD (D : List LK) (k : Nat) : List LK := D.set k (pgD D k, hrD D k, 3, 0, dtD D k)
def takeF (S : SG) (l : Int32) : Int32 × SG := match ixO (gD S).length l with
  | none => (-1001, S)
  | some k => if kdD (gD S) k = 3 then (-1003, S) else (1, sWh (sD S (holeD (gD S) k)) ((gWh S).filter (fun j => !decide (j = k))))
def toldA (S : SG) (l x : Int32) : Int32 := match ixO (gD S).length l with
  | none => -1001
  | some k => if 0 ≤ x ∧ x ≤ 5 then (if x = 0 then nI (pgD (gD S) k) else if x = 1 then hrD (gD S) k else if x = 2 then (if kdD (gD S) k = 3 then -1 else kdD (gD S) k) else if x = 3 then (if kdD (gD S) k = 3 then -1 else dtD (gD S) k) else if x = 4 then (if kdD (gD S) k = 3 then -1 else ons (stD (gD S) k)) else (if kdD (gD S) k = 3 then 1 else 0)) else -1002
def piecesA (S : SG) (l : Int32) : Int64 := match ixO (gD S).length l with
  | none => -1001
  | some k => stD (gD S) k
def viewA (S : SG) (p i : Int32) : Int32 := match ixO (gDs S).length p with
  | none => -1001
  | some p => if i = -1 then nI (vws (gD S) p).length else match ixO (vws (gD S) p).length i with
    | none => -1
    | some j => nI (gN (vws (gD S) p) j)
def allPc (D : List LK) : Nat → Int64
  | 0 => 0
  | i + 1 => allPc D i ||| (if isV D i = true then stD D i else 0)
def cntV (D : List LK) (b : Bool) : Nat → Int32
  | 0 => 0
  | i + 1 => cntV D b i + b2i (if b = true then decide (kdD D i = 3) else isV D i)
def hsD (S : SG) (i : Nat) : Int64 := (gHs S).getD i 0
def countA (S : SG) (x : Int32) : Int32 := if 0 ≤ x ∧ x ≤ 10 then (if x = 0 then gNw S else if x = 1 then nI (gDs S).length else if x = 2 then nI (gD S).length else if x = 3 then cntV (gD S) true (gD S).length else if x = 4 then cntV (gD S) false (gD S).length else if x = 5 then nI (gWh S).length else if x = 6 then nI (gTx S).length else if x = 7 then ons (hsD S 0) else if x = 8 then ons (hsD S 1) else if x = 9 then ons (hsD S 2) else ons (allPc (gD S) (gD S).length &&& ((hsD S 0 ||| hsD S 1 ||| hsD S 2) ^^^ (-1)))) else -1002
def rightA (S : SG) (x : Int32) : Int32 := if 0 ≤ x ∧ x ≤ 8 then (if x < 6 then (if (gNv S).getD x.toNatClampNeg 0 = 0 then (gLt S).getD x.toNatClampNeg 0 else 0) else if x = 6 then gNg S else if x = 7 then gPt S else ons (gCl S)) else -1002
def alikeA (S : SG) (l k : Int32) : Int32 := match vwO (gD S) l, vwO (gD S) k with
  | some a, some b => b2i (alk (gD S) (gCl S) a b)
  | _, _ => -1001
def sureA (S : SG) (p t : Int32) : Int32 := match ixO (gDs S).length p with
  | none => -1001
  | some p => if 0 ≤ t ∧ t ≤ gNw S then sureR (gD S) (gCl S) (gPt S) (vws (gD S) p) t else -1002
/-- a view's state at an hour -/
def staS (S : SG) (k : Nat) (t : Int32) : Int32 := stateR (gD S) (gCl S) (gPt S) (vws (gD S) (pgD (gD S) k)) k t
def stateA (S : SG) (l t : Int32) : Int32 := match vwO (gD S) l with
  | none => -1001
  | some k => if 0 ≤ t ∧ t ≤ gNw S then staS S k t else -1002
/-- of n hours from a on -/
def hrsN (S : SG) (k : Nat) (a x : Int32) : Nat → Int32
  | 0 => 0
  | n + 1 => hrsN S k a x n + b2i (decide (staS S k (a + nI n) = x))
def hoursA (S : SG) (l a b x : Int32) : Int32 := match vwO (gD S) l with
  | none => -1001
  | some k => if (0 ≤ a ∧ a ≤ gNw S) ∧ (a ≤ b ∧ b ≤ gNw S) ∧ (0 ≤ x ∧ x ≤ 2) then hrsN S k a x (b - a + 1).toNatClampNeg else -1002
def hasPg (S : SG) (k : Nat) : Nat → Bool
  | 0 => false
  | i + 1 => hasPg S k i || decide (pgD (gD S) (gN (gWh S) i) = pgD (gD S) k)
def partF (S : SG) (l : Int32) : Int32 × SG := match vwO (gD S) l with
  | none => (-1001, S)
  | some k => if kdD (gD S) k = 0 ∧ hasPg S k (gWh S).length = false then (if (gWh S).length = 8 then (-1004, S) else (nI ((gWh S).length + 1), sWh S (gWh S ++ [k]))) else (-1003, S)
def wipeF (S : SG) : Int32 × SG := (nI (gWh S).length, sWh S [])

