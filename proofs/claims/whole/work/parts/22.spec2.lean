/-! ===== answers: houses, rates, likeness, shown, since, first, nowhere, both ways, links ===== -/
def loseF (S : SG) (a b : Int32) : Int32 × SG := if 0 ≤ a ∧ a ≤ 2 then (if 0 ≤ b ∧ b ≤ 59 then (if (hsD S a.toNatClampNeg >>> (b.toInt64 &&& 63)) &&& 1 = 0 then (-1003, S) else (1, sHs S ((gHs S).set a.toNatClampNeg (hsD S a.toNatClampNeg &&& ((1 <<< (b.toInt64 &&& 63)) ^^^ (-1)))))) else (-1002, S)) else (-1001, S)
def difN (off : Int64) (f : Nat) : Nat → Bool
  | 0 => false
  | n + 1 => difN off f n || decide ((off >>> ((nI (f + n)).toInt64 &&& 63)) &&& 1 = 1)
def wrdB (off : Int64) (sz : Nat) (acc : Int32) : Nat → Int32
  | 0 => acc
  | m + 1 => wrdB off sz acc m + (if difN off (m * sz) sz = true then 2 else 0)
def wrdJ (off : Int64) : Nat → Int32
  | 0 => 1
  | j + 1 => wrdB off (2 ^ (6 - j)) (wrdJ off j) (2 ^ j)
def wordsA (S : SG) (a b : Int32) : Int32 := if (0 ≤ a ∧ a ≤ 2) ∧ (0 ≤ b ∧ b ≤ 2) then (if a = b then -1002 else wrdJ (hsD S a.toNatClampNeg ^^^ hsD S b.toNatClampNeg) 6) else -1001
def hsAll (S : SG) : Int64 := hsD S 0 ||| hsD S 1 ||| hsD S 2
def mendF (S : SG) : Int32 × SG := (0 + ons (hsAll S &&& (hsD S 0 ^^^ (-1))) + ons (hsAll S &&& (hsD S 1 ^^^ (-1))) + ons (hsAll S &&& (hsD S 2 ^^^ (-1))), sHs S [hsAll S, hsAll S, hsAll S])
def chgR (D : List LK) (cl : Int64) (vs : List Nat) : Nat → Int32
  | 0 => 0
  | i + 1 => chgR D cl vs i + b2i (!alk D cl (gN vs i) (gN vs (i + 1)))
def rateN (D : List LK) (cl : Int64) (vs : List Nat) : Int32 := if vs.length < 2 ∨ hrD D (gN vs (vs.length - 1)) = hrD D (gN vs 0) then -1 else chgR D cl vs (vs.length - 1) * 1000 / (hrD D (gN vs (vs.length - 1)) - hrD D (gN vs 0))
def rateA (S : SG) (p : Int32) : Int32 := match ixO (gDs S).length p with
  | none => -1001
  | some p => rateN (gD S) (gCl S) (vws (gD S) p)
def lkn (D : List LK) (cl : Int64) (l k : Nat) : Int32 := if ons ((stD D l ||| stD D k) &&& (cl ^^^ (-1))) = 0 then 100 else ons (stD D l &&& stD D k &&& (cl ^^^ (-1))) * 100 / ons ((stD D l ||| stD D k) &&& (cl ^^^ (-1)))
def likenessA (S : SG) (l k : Int32) : Int32 := match vwO (gD S) l, vwO (gD S) k with
  | some a, some b => if kdD (gD S) a = 0 ∧ kdD (gD S) b = 0 then lkn (gD S) (gCl S) a b else -1003
  | _, _ => -1001
def lstL (vs : List Nat) : Option Nat := if vs.length = 0 then none else some (gN vs (vs.length - 1))
def seenR (D : List LK) (vs : List Nat) : Nat → Option Nat
  | 0 => none
  | i + 1 => if kdD D (gN vs i) = 0 then some (gN vs i) else seenR D vs i
/-- how like page q's last view is -/
def mvV (S : SG) (p f q : Nat) : Int32 := if q = p then 0 else match lstL (vws (gD S) q) with
  | none => 0
  | some l => if kdD (gD S) l = 0 then lkn (gD S) (gCl S) f l else 0
def mvR (S : SG) (p f : Nat) : Nat → Int32 × Int32
  | 0 => (-1, 59)
  | q + 1 => if (mvR S p f q).2 < mvV S p f q then (nI q, mvV S p f q) else mvR S p f q
def movedA (S : SG) (p : Int32) : Int32 := match ixO (gDs S).length p with
  | none => -1001
  | some p => match lstL (vws (gD S) p) with
    | none => -1
    | some l => if kdD (gD S) l = 1 then (match seenR (gD S) (vws (gD S) p) (vws (gD S) p).length with
      | none => -1
      | some f => (mvR S p f (gDs S).length).1) else -1
def shnR (D : List LK) (vs : List Nat) (t : Int32) : Nat → Option Nat
  | 0 => none
  | i + 1 => if hrD D (gN vs i) ≤ t then some (gN vs i) else shnR D vs t i
def shownA (S : SG) (p t x : Int32) : Int32 := match ixO (gDs S).length p with
  | none => -1001
  | some p => if (0 ≤ t ∧ t ≤ gNw S) ∧ (0 ≤ x ∧ x ≤ 2) then (match shnR (gD S) (vws (gD S) p) t (vws (gD S) p).length with
    | none => -1
    | some l => if x = 0 then nI l else if x = 1 then t - hrD (gD S) l else staS S l t) else -1002
def hasB (D : List LK) (pc : Int32) (l : Nat) : Bool := decide ((stD D l >>> (pc.toInt64 &&& 63)) &&& 1 = 1)
def eaD (D : List LK) (vs : List Nat) (i : Nat) : Int32 := if i = 0 then 0 else hrD D (gN vs (i - 1)) + 1
def erlD (D : List LK) (vs : List Nat) (i : Nat) : Int32 := if eaD D vs i < fromD D (gN vs i) then eaD D vs i else fromD D (gN vs i)
def snR (D : List LK) (pc : Int32) (vs : List Nat) : Nat → Nat
  | 0 => 0
  | i + 1 => if hasB D pc (gN vs i) = true then snR D pc vs i else i + 1
def sinceA (S : SG) (p pc x : Int32) : Int32 := match ixO (gDs S).length p with
  | none => -1001
  | some p => if (0 ≤ pc ∧ pc ≤ 59) ∧ (0 ≤ x ∧ x ≤ 1) then (if (vws (gD S) p).length = 0 ∨ hasB (gD S) pc (gN (vws (gD S) p) ((vws (gD S) p).length - 1)) = false then -1003 else
    (if x = 0 then erlD (gD S) (vws (gD S) p) (snR (gD S) pc (vws (gD S) p) ((vws (gD S) p).length - 1)) else fromD (gD S) (gN (vws (gD S) p) (snR (gD S) pc (vws (gD S) p) ((vws (gD S) p).length - 1))))) else -1002
def fwO (D : List LK) (pc : Int32) (vs : List Nat) : Nat → Option Nat
  | 0 => none
  | i + 1 => (fwO D pc vs i).or (if hasB D pc (gN vs i) = true then some i else none)
def fwP (S : SG) (pc : Int32) (p : Nat) : Option Nat := fwO (gD S) pc (vws (gD S) p) (vws (gD S) p).length
def leaR (S : SG) (pc : Int32) : Nat → Int32
  | 0 => 3001
  | p + 1 => match fwP S pc p with
    | none => leaR S pc p
    | some i => if fromD (gD S) (gN (vws (gD S) p) i) < leaR S pc p then fromD (gD S) (gN (vws (gD S) p) i) else leaR S pc p
def fstB (S : SG) (pc le : Int32) (p : Nat) : Bool := match fwP S pc p with
  | none => false
  | some i => decide (erlD (gD S) (vws (gD S) p) i ≤ le)
def fstR (S : SG) (pc le : Int32) : Nat → Int32
  | 0 => 0
  | p + 1 => fstR S pc le p ||| (b2i (fstB S pc le p) <<< (nI p &&& 31))
def firstA (S : SG) (pc : Int32) : Int32 := if 0 ≤ pc ∧ pc ≤ 59 then fstR S pc (leaR S pc (gDs S).length) (gDs S).length else -1002
def nowR (S : SG) : Nat → Int64
  | 0 => allPc (gD S) (gD S).length
  | p + 1 => nowR S p &&& (match lstL (vws (gD S) p) with
    | none => -1
    | some l => stD (gD S) l ^^^ (-1))
def nowhereA (S : SG) : Int64 := nowR S (gDs S).length
/-- first, ahead, behind, same -/
def bwR (D : List LK) (cl : Int64) (vs : List Nat) (a m b : Int32) : Nat → Option Nat × Bool × Bool × Bool
  | 0 => (none, false, false, true)
  | i + 1 => if a ≤ hrD D (gN vs i) ∧ hrD D (gN vs i) ≤ b then
      ((bwR D cl vs a m b i).1.or (some (gN vs i)), (bwR D cl vs a m b i).2.1 || decide (hrD D (gN vs i) ≤ m), (bwR D cl vs a m b i).2.2.1 || decide (m < hrD D (gN vs i)), (bwR D cl vs a m b i).2.2.2 && !((bwR D cl vs a m b i).1.any (fun f => !alk D cl f (gN vs i))))
    else bwR D cl vs a m b i
def bwB (D : List LK) (cl : Int64) (vs : List Nat) (a m b : Int32) : Bool := (bwR D cl vs a m b vs.length).2.2.2 && ((bwR D cl vs a m b vs.length).2.1 && (bwR D cl vs a m b vs.length).2.2.1)
def bwAll (S : SG) (st a m b : Int32) : Nat → Bool
  | 0 => true
  | p + 1 => bwAll S st a m b p && (decide ((st >>> (nI p &&& 31)) &&& 1 = 0) || bwB (gD S) (gCl S) (vws (gD S) p) a m b)
def bwS (S : SG) (st a b : Int32) : Nat → Int32 → Int32
  | 0, _ => -1
  | n + 1, m => if bwAll S st a m b (gDs S).length = true then m else bwS S st a b n (m + 1)
abbrev pgSet (S : SG) (st : Int32) : Prop := 0 ≤ st ∧ st >>> (nI (gDs S).length &&& 31) = 0
def bothWaysA (S : SG) (st a b : Int32) : Int32 := if pgSet S st then (if (0 ≤ a ∧ a ≤ gNw S) ∧ (a ≤ b ∧ b ≤ gNw S) then bwS S st a b (b - a + 1).toNatClampNeg a else -1002) else -1001
def gC (cs : List CLS) (k : Nat) : CLS := cs.getD k (0, 0, 0)
def trapR (cs : List CLS) : Nat → Bool
  | 0 => false
  | k + 1 => trapR cs k || decide ((gC cs k).2.2 < 0)
def lnkM (cs : List CLS) (most : Int32) : Nat → Int32
  | 0 => 0
  | k + 1 => if (gC cs k).2.2 < 0 ∨ most < lnkM cs most k + (gC cs k).2.2 then most else lnkM cs most k + (gC cs k).2.2
def lnkA (cs : List CLS) : Nat → Nat → Int32 → Int32
  | 0, _, _ => -1
  | n + 1, k, left => if (gC cs k).2.2 < 0 ∨ left < (gC cs k).2.2 then (gC cs k).1 + left * (gC cs k).2.1 else lnkA cs n (k + 1) (left - (gC cs k).2.2)
def linksA (S : SG) (p ps i : Int32) : Int32 := match ixO (gDs S).length p with
  | none => -1001
  | some p => if 0 ≤ ps ∧ ps ≤ 200 then (if i = -1 then lnkM (prD (gPr S) p) ps (prD (gPr S) p).length else if 0 ≤ i ∧ i ≤ lnkM (prD (gPr S) p) ps (prD (gPr S) p).length - 1 then lnkA (prD (gPr S) p) (prD (gPr S) p).length 0 i else -1) else -1002
def moreA (S : SG) (p ps : Int32) : Int32 := match ixO (gDs S).length p with
  | none => -1001
  | some p => if 0 ≤ ps ∧ ps ≤ 200 then (if trapR (prD (gPr S) p) (prD (gPr S) p).length = true then 2 else b2i (decide (ps < lnkM (prD (gPr S) p) 10000 (prD (gPr S) p).length))) else -1002

