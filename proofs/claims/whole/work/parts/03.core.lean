/-! ===== the small machine: values, heaps, instructions as predicates ===== -/
abbrev AV : Type := Int32 ⊕ Int64 ⊕ Nat
abbrev AH : Type := (Nat → Nat) × (Nat → Nat → Int32) × (Nat → Nat → Int64) × (Nat → Nat → Nat) × (Nat → List Int32) × (Nat → List Int64) × (Nat → List Nat) × Nat
def hC (h : AH) : Nat → Nat := h.1
def hI (h : AH) : Nat → Nat → Int32 := h.2.1
def hL (h : AH) : Nat → Nat → Int64 := h.2.2.1
def hR (h : AH) : Nat → Nat → Nat := h.2.2.2.1
def aI (h : AH) : Nat → List Int32 := h.2.2.2.2.1
def aL (h : AH) : Nat → List Int64 := h.2.2.2.2.2.1
def aR (h : AH) : Nat → List Nat := h.2.2.2.2.2.2.1
def hZ (h : AH) : Nat := h.2.2.2.2.2.2.2
def up2 {α : Type} (f : Nat → Nat → α) (k a : Nat) (v : α) : Nat → Nat → α := fun g b => if g = k ∧ b = a then v else f g b
def up1 {α : Type} (f : Nat → α) (a : Nat) (v : α) : Nat → α := fun b => if b = a then v else f b
def sI (h : AH) (f a : Nat) (v : Int32) : AH := (hC h, up2 (hI h) f a v, hL h, hR h, aI h, aL h, aR h, hZ h)
def sL (h : AH) (f a : Nat) (v : Int64) : AH := (hC h, hI h, up2 (hL h) f a v, hR h, aI h, aL h, aR h, hZ h)
def sR (h : AH) (f a : Nat) (v : Nat) : AH := (hC h, hI h, hL h, up2 (hR h) f a v, aI h, aL h, aR h, hZ h)
def tI (h : AH) (a : Nat) (v : List Int32) : AH := (hC h, hI h, hL h, hR h, up1 (aI h) a v, aL h, aR h, hZ h)
def tL (h : AH) (a : Nat) (v : List Int64) : AH := (hC h, hI h, hL h, hR h, aI h, up1 (aL h) a v, aR h, hZ h)
def tR (h : AH) (a : Nat) (v : List Nat) : AH := (hC h, hI h, hL h, hR h, aI h, aL h, up1 (aR h) a v, hZ h)
/-- a new cell: of tag t, its fields 0, its row empty -/
def nW (h : AH) (t : Nat) : AH := (up1 (hC h) (hZ h) t, fun f b => if b = hZ h then 0 else hI h f b, fun f b => if b = hZ h then 0 else hL h f b, fun f b => if b = hZ h then 0 else hR h f b, up1 (aI h) (hZ h) [], up1 (aL h) (hZ h) [], up1 (aR h) (hZ h) [], hZ h + 1)
/-- a method's head: name, bytes, locals, what it returns -/
abbrev MH : Type := MethodName × ByteArray × Nat × Option FieldType
/-- an instruction: pc, itself, length, the next pc, the target, an int, a long, whether a loop's head -/
abbrev CE : Type := Nat × Instr × Nat × Nat × Nat × Int32 × Int64 × Bool
/-- a constant pool: fields (index, number, place, kind, key), methods (index, kind, tag, parameters, head), loads (index, kind, ref), classes (index, tag), statics (index, kind), String's fields (index, which), ints, longs -/
abbrev PL : Type := List (Nat × Nat × Nat × Nat × Nat) × List (Nat × Nat × Nat × Nat × MH) × List (Nat × Nat × Nat) × List (Nat × Nat) × List (Nat × Nat) × List (Nat × Nat) × List (Nat × Int32) × List (Nat × Int64)
abbrev MD : Type := MH × List CE × PL
def lk {α : Type} : List (Nat × α) → Nat → Option α
  | [], _ => none
  | (i, a) :: r, k => match Nat.beq i k with
    | true => some a
    | false => lk r k
def sfx : List CE → Nat → List CE
  | [], _ => []
  | e :: r, k => match Nat.beq e.1 k with
    | true => e :: r
    | false => sfx r k
def setK {α : Type} : List α → Nat → α → (List α → Prop) → Prop
  | [], _, _, _ => False
  | _ :: r, 0, v, K => K (v :: r)
  | a :: r, k + 1, v, K => setK r k v (fun r' => K (a :: r'))
/-- behind a store at k the half of a long ahead of it is gone -/
def cutK (l : List (Option AV)) (k : Nat) (K : List (Option AV) → Prop) : Prop := match k with
  | 0 => K l
  | j + 1 => match l[j]? with
    | some (some (.inr (.inl _))) => setK l j none K
    | _ => K l
def st1 (l : List (Option AV)) (k : Nat) (v : AV) (K : List (Option AV) → Prop) : Prop := cutK l k (fun l1 => setK l1 k (some v) K)
def st2 (l : List (Option AV)) (k : Nat) (v : AV) (K : List (Option AV) → Prop) : Prop := cutK l k (fun l1 => setK l1 k (some v) (fun l2 => setK l2 (k + 1) none K))
def ldI (l : List (Option AV)) (k : Nat) (K : AV → Prop) : Prop := match l[k]? with
  | some (some (.inl x)) => K (.inl x)
  | _ => False
def ldL (l : List (Option AV)) (k : Nat) (K : AV → Prop) : Prop := match l[k]? with
  | some (some (.inr (.inl x))) => K (.inr (.inl x))
  | _ => False
def ldR (l : List (Option AV)) (k : Nat) (K : AV → Prop) : Prop := match l[k]? with
  | some (some (.inr (.inr x))) => K (.inr (.inr x))
  | _ => False
def oI (st : List AV) (K : Int32 → List AV → Prop) : Prop := match st with
  | .inl x :: r => K x r
  | _ => False
def oL (st : List AV) (K : Int64 → List AV → Prop) : Prop := match st with
  | .inr (.inl x) :: r => K x r
  | _ => False
def oR (st : List AV) (K : Nat → List AV → Prop) : Prop := match st with
  | .inr (.inr x) :: r => K x r
  | _ => False
def oII (st : List AV) (K : Int32 → Int32 → List AV → Prop) : Prop := oI st (fun y r => oI r (fun x r => K x y r))
def oLL (st : List AV) (K : Int64 → Int64 → List AV → Prop) : Prop := oL st (fun y r => oL r (fun x r => K x y r))
def oLI (st : List AV) (K : Int64 → Int32 → List AV → Prop) : Prop := oI st (fun y r => oL r (fun x r => K x y r))
def oRR (st : List AV) (K : Nat → Nat → List AV → Prop) : Prop := oR st (fun y r => oR r (fun x r => K x y r))
def oRI (st : List AV) (K : Nat → Int32 → List AV → Prop) : Prop := oI st (fun j r => oR r (fun a r => K a j r))
def cw (v : AV) : Nat := match v with
  | .inr (.inl _) => 2
  | _ => 1
def cws : List AV → Nat
  | [] => 0
  | v :: r => cw v + cws r
/-- the last n of a stack, in the order of the call -/
def popK : Nat → List AV → List AV → (List AV → List AV → Prop) → Prop
  | 0, st, as, K => K as st
  | _ + 1, [], _, _ => False
  | n + 1, v :: r, as, K => popK n r (v :: as) K
def swc (x : Int32) : Int → List Int → (Int → Prop) → Prop
  | _, [], _ => True
  | v, o :: r, K => (x.toInt = v → K o) ∧ swc x (v + 1) r K
/-- an index within a row -/
def ixIn (j : Int32) (n : Nat) : Prop := ¬ (j < 0 ∨ n ≤ j.toNatClampNeg)
def cpy {α : Type} (s d : List α) (sp dp n : Nat) : List α := d.take dp ++ (s.drop sp).take n ++ d.drop (dp + n)
/-! ===== the world: class numbers, slots, array classes, the addresses of what was there before, the first own address ===== -/
abbrev WD : Type := (Nat → ClassId) × (Nat → Nat → Nat) × (Nat → ClassId) × (Nat → Nat) × Nat × List Int32
def wX (w : WD) : Nat → Nat := w.2.2.2.1
def wB (w : WD) : Nat := w.2.2.2.2.1
/-- the law's script -/
def wS (w : WD) : List Int32 := w.2.2.2.2.2
def wA (w : WD) : Nat → ClassId := w.2.2.1
def rho (w : WD) (n : Nat) : Nat := if n < 32 then wX w n else wB w + (n - 32)
def rvo (w : WD) (n : Nat) : Option Nat := if n = 0 then none else some (rho w n)
def rvr (w : WD) (n : Nat) : Value := va_rf (rvo w n)
def rv (w : WD) : AV → Value
  | .inl x => .int x
  | .inr (.inl x) => .long x
  | .inr (.inr n) => rvr w n
def fT (ci : Nat) : Nat → FieldType := match ci with
  | 0 => tyJx4a65c
  | 1 => tyX0
  | 2 => tyX1
  | 3 => tyX2
  | 4 => tyX3
  | 5 => tyX4
  | 6 => tyX5
  | 7 => tyX6
  | 8 => tyX7
  | 9 => tyX8
  | _ => tyX9
/-- a field's kind: 0 int, 1 long, 2 a reference, 3 boolean -/
def fK (t : FieldType) : Nat := match t with
  | .int => 0
  | .long => 1
  | .boolean => 3
  | .object _ => 2
  | .array _ => 2
  | _ => 9
def fV (w : WD) (h : AH) (kd key n : Nat) : Value := match kd with
  | 1 => .long (hL h key n)
  | 2 => rvr w (hR h key n)
  | _ => .int (hI h key n)
def arrL (cA : ClassId) (vs : List Value) : Cell := { cls := cA, slots := vs.toArray, vm := .none }
/-- an own cell -/
def cOK (w : WD) (h : AH) (n : Nat) (H : Heap) : Prop :=
  (∃ (ci : Nat) (r : vw_C), hC h n = ci + 1 ∧ vwCl[ci]? = some r ∧ t_OB (rho w n) (w.1 ci) r.2.2 (w.2.1 ci) H (fun k => fV w h (fK (fT ci k)) (64 * ci + k) n)) ∨
  (hC h n = 101 ∧ H[rho w n]? = some (arrL (wA w 0) ((aI h n).map Value.int))) ∨
  (hC h n = 102 ∧ H[rho w n]? = some (arrL (wA w 1) ((aL h n).map Value.long))) ∨
  (hC h n = 103 ∧ H[rho w n]? = some (arrL (wA w 2) ((aI h n).map Value.int))) ∨
  (hC h n = 104 ∧ H[rho w n]? = some (arrL (wA w 3) ((aR h n).map (rvr w))))
def sNames : List String := ["never", "let", "each", "night", "patience", "clothes", "link", "row", "by", "times", "ever"]
def sBytes : List (List Int32) := [[110, 101, 118, 101, 114], [108, 101, 116], [101, 97, 99, 104], [110, 105, 103, 104, 116], [112, 97, 116, 105, 101, 110, 99, 101], [99, 108, 111, 116, 104, 101, 115], [108, 105, 110, 107], [114, 111, 119], [98, 121], [116, 105, 109, 101, 115], [101, 118, 101, 114]]
def sLens : List Nat := [5, 3, 4, 5, 8, 7, 4, 3, 2, 5, 4]
/-- where the texts stand: class, index, text -/
def sAt : List (String × Nat × String) := [("KeptPages$Rights", 52, "never"), ("KeptPages$Rights", 62, "let"), ("KeptPages$Rights", 89, "each"), ("KeptPages$Rights", 67, "night"), ("KeptPages$Rights", 76, "patience"), ("KeptPages$Rights", 77, "clothes"), ("KeptPages$Program", 46, "link"), ("KeptPages$Program", 60, "row"), ("KeptPages$Program", 62, "by"), ("KeptPages$Program", 68, "times"), ("KeptPages$Program", 69, "ever")]
/-- what was there before, as the small heap tells it -/
def xOK (w : WD) (h : AH) (n : Nat) : Prop :=
  (n = 26 ∧ hC h n = 106 ∧ aI h n = wS w) ∨
  (n = 1 ∧ hC h n = 104 ∧ aR h n = []) ∨
  (2 ≤ n ∧ n < 13 ∧ hC h n = 12 ∧ hR h 704 n = n + 11 ∧ hI h 705 n = 0) ∨
  (13 ≤ n ∧ n < 24 ∧ hC h n = 105 ∧ aI h n = sBytes.getD (n - 13) [])
/-! ===== the fixed cells: what stands once both objects are made ===== -/
def layC : List (Nat × Nat) := [(32, 10), (33, 1), (34, 1), (35, 101), (36, 8), (37, 101), (38, 9), (39, 1), (40, 101), (41, 101), (42, 5), (43, 101), (44, 101), (45, 101), (46, 101), (47, 101), (48, 101), (49, 101), (50, 101), (51, 101), (52, 2), (53, 102), (54, 7), (55, 101), (56, 7), (57, 101), (58, 6), (59, 101), (60, 101), (61, 101), (62, 11), (63, 101), (64, 101), (65, 101), (66, 101), (67, 102), (68, 101), (69, 102), (70, 103), (71, 101), (72, 101), (73, 101), (74, 103), (75, 101), (76, 101), (77, 101), (78, 101), (79, 101), (80, 101), (81, 101), (82, 101), (83, 101), (84, 101), (85, 101), (86, 101), (87, 101)]
def layR : List (Nat × Nat × Nat) := [(576, 32, 33), (577, 32, 34), (578, 32, 35), (579, 32, 36), (448, 36, 37), (580, 32, 38), (512, 38, 39), (513, 38, 40), (514, 38, 41), (581, 32, 42), (256, 42, 43), (257, 42, 44), (258, 42, 45), (259, 42, 46), (260, 42, 47), (261, 42, 48), (262, 42, 49), (263, 42, 50), (264, 42, 51), (582, 32, 52), (64, 52, 53), (384, 54, 55), (384, 56, 57), (320, 58, 59), (321, 58, 60), (322, 58, 61), (642, 62, 63), (644, 62, 64), (645, 62, 65), (646, 62, 66), (647, 62, 67), (648, 62, 68), (649, 62, 69), (650, 62, 70), (651, 62, 71), (655, 62, 72), (657, 62, 73), (664, 62, 74), (665, 62, 75), (670, 62, 76), (671, 62, 77), (672, 62, 78), (673, 62, 79), (674, 62, 80), (675, 62, 81), (676, 62, 82), (678, 62, 83), (685, 62, 84), (686, 62, 85), (688, 62, 86), (689, 62, 87)]
def layI : List (Nat × Nat) := [(35, 6), (37, 200), (40, 8), (41, 8), (43, 7), (44, 7), (45, 7), (46, 7), (47, 6), (48, 6), (49, 6), (50, 12), (51, 12), (55, 6), (57, 6), (59, 8), (60, 8), (61, 8), (63, 12), (64, 100), (65, 100), (66, 100), (68, 100), (70, 6), (71, 6), (72, 100), (73, 200), (74, 6), (75, 6), (76, 12), (77, 96), (78, 96), (79, 96), (80, 8), (81, 8), (82, 8), (83, 8), (84, 7), (85, 7), (86, 12), (87, 12)]
def layJ : List (Nat × Nat) := [(53, 3), (67, 100), (69, 3)]
/-- a class's only object (0: there may be more) -/
def sing (ci : Nat) : Nat := match ci with
  | 1 => 52
  | 4 => 42
  | 7 => 36
  | 8 => 38
  | 9 => 32
  | 10 => 62
  | _ => 0
def finR : List (Nat × Nat) := [(576, 33), (577, 34), (578, 35), (579, 36), (448, 37), (580, 38), (512, 39), (513, 40), (514, 41), (581, 42), (256, 43), (257, 44), (258, 45), (259, 46), (260, 47), (261, 48), (262, 49), (263, 50), (264, 51), (582, 52), (64, 53), (642, 63), (644, 64), (645, 65), (646, 66), (647, 67), (648, 68), (649, 69), (650, 70), (651, 71), (655, 72), (657, 73), (664, 74), (665, 75), (670, 76), (671, 77), (672, 78), (673, 79), (674, 80), (675, 81), (676, 82), (678, 83), (685, 84), (686, 85), (688, 86), (689, 87)]
def Lay (h : AH) : Prop := 88 ≤ hZ h ∧ (∀ q ∈ layC, hC h q.1 = q.2) ∧ (∀ q ∈ layR, hR h q.1 q.2.1 = q.2.2) ∧ (∀ q ∈ layI, (aI h q.1).length = q.2) ∧ (∀ q ∈ layJ, (aL h q.1).length = q.2)
def Sim (w : WD) (lm : Bool) (h : AH) (H : Heap) : Prop :=
  H.size + 32 = wB w + hZ h ∧ 32 ≤ hZ h ∧ (∀ n, hC h n ≠ 0 → (32 ≤ n ∧ n < hZ h ∧ cOK w h n H) ∨ (n < 32 ∧ xOK w h n)) ∧ (lm = true → Lay h)
def wO (w : WD) : Nat → Prop := fun q => wB w ≤ q
def tysW (w : WD) : List (ClassId × FieldType) := [(wA w 0, .int), (wA w 1, .long), (wA w 2, .boolean), (wA w 3, .object "java/lang/Object")]
/-- words that a state's tables keep, each kind by a row of its own -/
def bw : Cond → Bool
  | .methodLinkNest .. => true
  | .castable .. => true
  | .declares .. => true
  | _ => false
def fwN : List MethodName := [⟨"java/util/ArrayList", "size", "()I"⟩, ⟨"java/util/ArrayList", "add", "(Ljava/lang/Object;)Z"⟩, ⟨"java/util/ArrayList", "get", "(I)Ljava/lang/Object;"⟩, ⟨"java/util/ArrayList", "isEmpty", "()Z"⟩, ⟨"java/util/ArrayList", "remove", "(I)Ljava/lang/Object;"⟩, ⟨"java/util/ArrayList", "clear", "()V"⟩]
def lw_g : List Cond := lw_tbl.filter goodWord
theorem lw_in {q : Cond} (h : q ∈ lw_tbl) (hg : goodWord q = true) : q ∈ lw_g := List.mem_filter.mpr ⟨h, hg⟩
/-- what the machine's tables and what was there before say, at a state -/
def WK (w : WD) (U : State) : Prop :=
  va_K (w.1, w.2.1) vwCl (tysW w) U ∧
  vk_S 11 sLens sBytes (fun i => wX w (2 + i)) (fun i => wX w (13 + i)) (wO w) U U.heap ∧
  (∀ (i : Nat) (q : String × Nat × String), sAt[i]? = some q → vk_R q.1 q.2.1 q.2.2 (wX w (2 + i)) U) ∧
  va_Z "java/util/ArrayList" "DEFAULTCAPACITY_EMPTY_ELEMENTDATA" "[Ljava/lang/Object;" (.ref (wX w 1)) (wO w) U U.heap ∧
  ((∃ cell : Cell, U.heap[wX w 1]? = some cell ∧ cell.cls = wA w 3 ∧ cell.vm.isStatics = false ∧ (∀ k, cell.vm ≠ .statics k) ∧ cell.slots.size.toInt32 = 0) ∧ wX w 1 < wB w) ∧
  va_Z "java/lang/String" "COMPACT_STRINGS" "Z" (.int 1) (wO w) U U.heap ∧
  (∃ r : Nat, va_Z "jdk/internal/util/Preconditions" "SIOOBE_FORMATTER" "Ljava/util/function/BiFunction;" (rvr w r) (wO w) U U.heap ∧ r < 32) ∧
  va_Mi "[Ljava/lang/Object;" (wX w 24) U ∧ va_Dc U ∧ va_AO "java/lang/Object" U ∧
  (∀ q ∈ lw_tbl, bw q = true → va_Nw q U) ∧
  (∀ y ∈ fwN, va_Fw "java/util/ArrayList" ⟨"java/util/List", y.name, y.desc⟩ y U) ∧
  (∀ n, n < 24 ∨ n = 26 → wX w n < wB w) ∧ wB w ≤ U.heap.size ∧ ((wS w).length < 2 ^ 31 ∧ va_X (wX w 26) (wS w).length (fun j => (wS w).getD j 0) U U.heap)
/-! ===== the judgements ===== -/
def rmD (d c s : Nat) : Room := { frames := d, cells := c, slots := s, locals := 64 * d }
def pcD (w : WD) (lm : Bool) (as : List AV) (h : AH) : Array Value → State → Prop := fun v U => v = (as.map (rv w)).toArray ∧ WK w U ∧ Sim w lm h U.heap
def qcD (w : WD) (lm : Bool) (Q : Option AV → AH → Prop) : Array Value → State → Outcome → State → Prop := fun _ st o t => ∃ (v : Option AV) (h' : AH), o = .returned (v.map (rv w)) ∧ Q v h' ∧ Sim w lm h' t.heap ∧ st.heap.size ≤ t.heap.size ∧ ∀ q : Nat, q < wB w → t.heap[q]? = st.heap[q]?
def wsD (M : MH) : List Cond := Cond.code M.1 M.2.1 M.2.2.1 M.2.2.2 :: lw_g
/-- a call: any heap that h tells of; it returns, and Q of the answer and the heap behind it; c cells of s slots at most are new -/
def Con (l : Launch) (w : WD) (lm : Bool) (d : Nat) (M : MH) (as : List AV) (h : AH) (c s : Nat) (Q : Option AV → AH → Prop) : Prop :=
  Met l M.1 (wsD M) (rmD d c s) (pcD w lm as h) (qcD w lm Q) c s (wO w)
def Cal (l : Launch) (w : WD) (lm : Bool) (d : Nat) (M : MH) (as : List AV) (h : AH) (bc bs : Nat) (K : Option AV → AH → Nat → Nat → Prop) : Prop :=
  ∃ c1 s1 c2 s2 : Nat, bc = c1 + c2 ∧ bs = s1 + s2 ∧ Con l w lm d M as h c1 s1 (fun v h' => K v h' c2 s2)
def LOK (w : WD) (ls : Array Slot) (l : List (Option AV)) : Prop := ls.size = l.length ∧ lv_wf ls ∧ ∀ (i : Nat) (v : AV), l[i]? = some (some v) → ls[i]? = some (.val (rv w v))
def Cx (w : WD) (X : MD) (p : Program) (s : State) (m : MethodId) (args : Array Value) (meth : Method) (c : Code) : Prop :=
  p.tables.exec = Jvm.exec ∧ c.code = X.1.2.1 ∧ c.maxLocals = X.1.2.2.1 ∧ s.vm.findClass X.1.1.cls = some m.cls ∧ (∀ q ∈ lw_g, q.before args s = true) ∧ meth.sig.returnType = X.1.2.2.2 ∧ meth.locks = false ∧ meth.name = X.1.1.name ∧ WK w s
/-- the machine stands at pc of X, with these locals, this stack, a heap that h tells of, c cells of s slots left: it returns with Q -/
def Ex (l : Launch) (w : WD) (lm : Bool) (X : MD) (d : Nat) (Q : Option AV → AH → Prop) (pc : Nat) (ll : List (Option AV)) (st : List AV) (h : AH) (bc bs : Nat) : Prop :=
  ∀ (p : Program) (e : Env) (R : Room) (s : State) (m : MethodId) (args : Array Value) (below : List Frame) (meth : Method) (c : Code) (H : Heap) (locs : List Loc) (cells slots : Nat) (ls : Array Slot),
    Cx w X p s m args meth c → R.frames = d → R.locals = 64 * d → cells + bc ≤ R.cells → slots + bs ≤ R.slots → Sim w lm h H → LOK w ls ll → ll.length = X.1.2.2.1 → va_S (wO w) s.heap H locs →
    W p l e R s m args below meth c H locs cells slots (MQ below (qcD w lm Q) args s R.cells R.slots (wO w)) (F0 m pc ls (st.map (rv w)))
