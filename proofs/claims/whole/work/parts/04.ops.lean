/-! ===== an instruction as a predicate: N goes on at the next one, J at a target (Ex both ways) ===== -/
def cI1 (k : ClassFile.Cond) (x : Int32) (A B : Prop) : Prop := match k with
  | .eq => (x = 0 → A) ∧ (¬ x = 0 → B)
  | .ne => (¬ x = 0 → A) ∧ (x = 0 → B)
  | .lt => (x < 0 → A) ∧ (¬ x < 0 → B)
  | .ge => (0 ≤ x → A) ∧ (¬ 0 ≤ x → B)
  | .gt => (0 < x → A) ∧ (¬ 0 < x → B)
  | .le => (x ≤ 0 → A) ∧ (¬ x ≤ 0 → B)
def cI2 (k : ClassFile.Cond) (x y : Int32) (A B : Prop) : Prop := match k with
  | .eq => (x = y → A) ∧ (¬ x = y → B)
  | .ne => (¬ x = y → A) ∧ (x = y → B)
  | .lt => (x < y → A) ∧ (¬ x < y → B)
  | .ge => (y ≤ x → A) ∧ (¬ y ≤ x → B)
  | .gt => (y < x → A) ∧ (¬ y < x → B)
  | .le => (x ≤ y → A) ∧ (¬ x ≤ y → B)
/-- a look by program -/
def ifB (b : Bool) (A : Prop) : Prop := match b with
  | true => A
  | false => False
def nz (d : Nat) (A : Prop) : Prop := match d with
  | 0 => False
  | _ + 1 => A
/-- a reference that compares by its number: null, what was there, or an own one -/
def rOK (r : Nat) : Prop := r < 2 ∨ 32 ≤ r
section
variable (l : Launch) (w : WD) (X : MD) (d : Nat) (Q : Option AV → AH → Prop)
/-- the cell is of the class: by the layout where a class has one object, else asked -/
def isC (lm : Bool) (ci a : Nat) (h : AH) (A : Prop) : Prop := match lm with
  | false => hC h a = ci + 1 ∧ A
  | true => match sing ci with
    | 0 => hC h a = ci + 1 ∧ A
    | s + 1 => ifB (Nat.beq a (s + 1)) A
/-- a reference field: by the layout where it is fixed -/
def rF (lm : Bool) (ci key a : Nat) (h : AH) (N : Nat → Prop) : Prop := match lm with
  | false => N (hR h key a)
  | true => match sing ci with
    | 0 => N (hR h key a)
    | _ + 1 => match lk finR key with
      | some v => N v
      | none => N (hR h key a)
def aGet (lm : Bool) (N : List AV → Prop) (idx : Nat) (st : List AV) (h : AH) : Prop := match lk X.2.2.1 idx with
  | some (ci, _, kd, key) => oR st (fun a r => isC lm ci a h (match kd with
      | 1 => N (.inr (.inl (hL h key a)) :: r)
      | 2 => rF lm ci key a h (fun v => N (.inr (.inr v) :: r))
      | _ => N (.inl (hI h key a) :: r)))
  | none => match lk X.2.2.2.2.2.2.2.1 idx with
    | some 0 => oR st (fun a r => hC h a = 12 ∧ N (.inr (.inr (hR h 704 a)) :: r))
    | some _ => oR st (fun a r => hC h a = 12 ∧ N (.inl (hI h 705 a) :: r))
    | none => False
def noFin (lm : Bool) (key : Nat) : Bool := match lm with
  | false => true
  | true => layR.all (fun q => !Nat.beq q.1 key)
def aPut (lm : Bool) (N : List AV → AH → Prop) (idx : Nat) (st : List AV) (h : AH) : Prop := match lk X.2.2.1 idx with
  | some (ci, _, kd, key) => (match kd with
      | 0 => oI st (fun x r => oR r (fun a r => isC lm ci a h (N r (sI h key a x))))
      | 1 => oL st (fun x r => oR r (fun a r => isC lm ci a h (N r (sL h key a x))))
      | 2 => oR st (fun x r => oR r (fun a r => isC lm ci a h (ifB (noFin lm key) (N r (sR h key a x)))))
      | _ => oI st (fun x r => oR r (fun a r => isC lm ci a h ((x = 0 ∨ x = 1) ∧ N r (sI h key a x)))))
  | none => False
/-- an element that a row of references may hold -/
def eOK (h : AH) (r : Nat) : Prop := r = 0 ∨ (32 ≤ r ∧ (hC h r = 3 ∨ hC h r = 4))
def aCopy (N : List AV → AH → Prop) (st : List AV) (h : AH) : Prop :=
  oI st (fun n r => oI r (fun dp r => oR r (fun b r => oI r (fun sp r => oR r (fun a r =>
    nz d (ifB (Nat.ble (cws r) 8) ((0 ≤ n ∧ 0 ≤ dp ∧ 0 ≤ sp ∧ 32 ≤ b) ∧
    ((hC h a = 101 ∧ hC h b = 101 ∧ sp.toNatClampNeg + n.toNatClampNeg ≤ (aI h a).length ∧ dp.toNatClampNeg + n.toNatClampNeg ≤ (aI h b).length ∧ N r (tI h b (cpy (aI h a) (aI h b) sp.toNatClampNeg dp.toNatClampNeg n.toNatClampNeg))) ∨
     (hC h a = 104 ∧ 32 ≤ a ∧ hC h b = 104 ∧ sp.toNatClampNeg + n.toNatClampNeg ≤ (aR h a).length ∧ dp.toNatClampNeg + n.toNatClampNeg ≤ (aR h b).length ∧ (∀ r ∈ aR h a, eOK h r) ∧ N r (tR h b (cpy (aR h a) (aR h b) sp.toNatClampNeg dp.toNatClampNeg n.toNatClampNeg)))))))))))
/-- the receiver's class -/
def isT (lm : Bool) (tag a : Nat) (h : AH) (A : Prop) : Prop := match tag with
  | 0 => False
  | ci + 1 => isC lm ci a h A
/-- a call; E is where it goes on -/
def aCall (lm : Bool) (N : List AV → Prop) (NH : List AV → AH → Prop) (E : Option AV → List AV → AH → Nat → Nat → Prop) (idx : Nat) (st : List AV) (h : AH) (bc bs : Nat) : Prop := match lk X.2.2.2.1 idx with
  | some (kd, tag, np, M) => (match kd with
      | 5 => oR st (fun a r => nz d (ifB (Nat.ble (cws r) 8) (a ≠ 0 ∧ N r)))
      | 6 => aCopy d NH st h
      | 7 => oR st (fun a r => nz d (ifB (Nat.ble (cws r) 8) (hC h a = 104 ∧ N (.inr (.inr 24) :: r))))
      | 8 => oII st (fun x y r => nz d (ifB (Nat.ble (cws r) 8) (N (.inl (if x < y then y else x) :: r))))
      | 9 => oII st (fun x y r => nz d (ifB (Nat.ble (cws r) 8) (N (.inl (if y < x then y else x) :: r))))
      | 1 => popK np st [] (fun as r => ifB (Nat.ble (cws r) 8) (match d with
          | 0 => False
          | d' + 1 => Cal l w lm d' M as h bc bs (fun v h' c s => E v r h' c s)))
      | _ => popK np st [] (fun as r => oR r (fun a r => isT lm tag a h (ifB (Nat.ble (cws r) 8) (match d with
          | 0 => False
          | d' + 1 => Cal l w lm d' M (.inr (.inr a) :: as) h bc bs (fun v h' c s => E v r h' c s))))))
  | none => False
def aStat (N : List AV → Prop) (idx : Nat) (st : List AV) : Prop := match lk X.2.2.2.2.2.2.1 idx with
  | some 0 => N (.inr (.inr 1) :: st)
  | some 1 => N (.inl 1 :: st)
  | some 2 => ∀ r : Nat, N (.inr (.inr r) :: st)
  | _ => False
def aLdc (N : List AV → Prop) (idx : Nat) (st : List AV) : Prop := match lk X.2.2.2.2.1 idx with
  | some (_, r) => N (.inr (.inr r) :: st)
  | none => match lk X.2.2.2.2.2.2.2.2.1 idx with
    | some v => N (.inl v :: st)
    | none => False
def aNew (N : List AV → AH → Nat → Nat → Prop) (idx : Nat) (st : List AV) (h : AH) (bc bs : Nat) : Prop := match lk X.2.2.2.2.2.1 idx with
  | some ci => (match vwCl[ci]? with
    | some q => (∃ b2 s2 : Nat, bc = b2 + 1 ∧ bs = s2 + q.2.2 ∧ N (.inr (.inr (hZ h)) :: st) (nW h (ci + 1)) b2 s2)
    | none => False)
  | none => False
def aArr (N : List AV → AH → Nat → Nat → Prop) (t : ArrayType) (st : List AV) (h : AH) (bc bs : Nat) : Prop := oI st (fun n r => ¬ n < 0 ∧ n.toNatClampNeg ≤ 60000 ∧ ∃ b2 s2 : Nat, bc = b2 + 1 ∧ bs = s2 + n.toNatClampNeg ∧ (match t with
  | .int => N (.inr (.inr (hZ h)) :: r) (tI (nW h 101) (hZ h) (List.replicate n.toNatClampNeg 0)) b2 s2
  | .long => N (.inr (.inr (hZ h)) :: r) (tL (nW h 102) (hZ h) (List.replicate n.toNatClampNeg 0)) b2 s2
  | .boolean => N (.inr (.inr (hZ h)) :: r) (tI (nW h 103) (hZ h) (List.replicate n.toNatClampNeg 0)) b2 s2
  | _ => False))
end
/-- a place of a row -/
def ixI (h : AH) (a : Nat) (j : Int32) : Prop := (hC h a = 101 ∨ hC h a = 106) ∧ ixIn j (aI h a).length
def jxI (h : AH) (a : Nat) (j : Int32) : Prop := hC h a = 101 ∧ ixIn j (aI h a).length
def ixZ (h : AH) (a : Nat) (j : Int32) : Prop := (hC h a = 103 ∨ hC h a = 105) ∧ ixIn j (aI h a).length
def jxZ (h : AH) (a : Nat) (j : Int32) : Prop := hC h a = 103 ∧ ixIn j (aI h a).length
def ixL (h : AH) (a : Nat) (j : Int32) : Prop := hC h a = 102 ∧ ixIn j (aL h a).length
def ixR (h : AH) (a : Nat) (j : Int32) : Prop := hC h a = 104 ∧ ixIn j (aR h a).length
def aop (l : Launch) (w : WD) (lm : Bool) (X : MD) (d : Nat) (Q : Option AV → AH → Prop) (N J : List (Option AV) → List AV → AH → Nat → Nat → Prop) (G : Nat → List (Option AV) → List AV → AH → Nat → Nat → Prop) (E : List (Option AV) → List AV → AH → Nat → Nat → Prop)
    (i : Instr) (pc : Nat) (cv : Int32) (cl : Int64) (ll : List (Option AV)) (st : List AV) (h : AH) (bc bs : Nat) : Prop :=
  match i with
  | .iconst _ => N ll (.inl cv :: st) h bc bs
  | .bipush _ => N ll (.inl cv :: st) h bc bs
  | .sipush _ => N ll (.inl cv :: st) h bc bs
  | .lconst _ => N ll (.inr (.inl cl) :: st) h bc bs
  | .ldc2_w _ => N ll (.inr (.inl cl) :: st) h bc bs
  | .ldc_w _ => N ll (.inl cv :: st) h bc bs
  | .ldc idx => aLdc X (fun st => N ll st h bc bs) idx st
  | .aconst_null => N ll (.inr (.inr 0) :: st) h bc bs
  | .iload k => ldI ll k (fun v => N ll (v :: st) h bc bs)
  | .iload_n k => ldI ll k.val (fun v => N ll (v :: st) h bc bs)
  | .lload k => ldL ll k (fun v => N ll (v :: st) h bc bs)
  | .lload_n k => ldL ll k.val (fun v => N ll (v :: st) h bc bs)
  | .aload k => ldR ll k (fun v => N ll (v :: st) h bc bs)
  | .aload_n k => ldR ll k.val (fun v => N ll (v :: st) h bc bs)
  | .istore k => oI st (fun x r => st1 ll k (.inl x) (fun l2 => N l2 r h bc bs))
  | .istore_n k => oI st (fun x r => st1 ll k.val (.inl x) (fun l2 => N l2 r h bc bs))
  | .lstore k => oL st (fun x r => st2 ll k (.inr (.inl x)) (fun l2 => N l2 r h bc bs))
  | .lstore_n k => oL st (fun x r => st2 ll k.val (.inr (.inl x)) (fun l2 => N l2 r h bc bs))
  | .astore k => oR st (fun x r => st1 ll k (.inr (.inr x)) (fun l2 => N l2 r h bc bs))
  | .astore_n k => oR st (fun x r => st1 ll k.val (.inr (.inr x)) (fun l2 => N l2 r h bc bs))
  | .iinc k _ => ldI ll k (fun v => oI [v] (fun x _ => st1 ll k (.inl (x + cv)) (fun l2 => N l2 st h bc bs)))
  | .iadd => oII st (fun x y r => N ll (.inl (x + y) :: r) h bc bs)
  | .isub => oII st (fun x y r => N ll (.inl (x - y) :: r) h bc bs)
  | .imul => oII st (fun x y r => N ll (.inl (x * y) :: r) h bc bs)
  | .idiv => oII st (fun x y r => ¬ y = 0 ∧ N ll (.inl (x / y) :: r) h bc bs)
  | .iand => oII st (fun x y r => N ll (.inl (x &&& y) :: r) h bc bs)
  | .ior => oII st (fun x y r => N ll (.inl (x ||| y) :: r) h bc bs)
  | .ixor => oII st (fun x y r => N ll (.inl (x ^^^ y) :: r) h bc bs)
  | .ishl => oII st (fun x y r => N ll (.inl (x <<< (y &&& 31)) :: r) h bc bs)
  | .ishr => oII st (fun x y r => N ll (.inl (x >>> (y &&& 31)) :: r) h bc bs)
  | .iushr => oII st (fun x y r => N ll (.inl (x.toUInt32 >>> (y.toUInt32 &&& Int32.toUInt32 31)).toInt32 :: r) h bc bs)
  | .ladd => oLL st (fun x y r => N ll (.inr (.inl (x + y)) :: r) h bc bs)
  | .lsub => oLL st (fun x y r => N ll (.inr (.inl (x - y)) :: r) h bc bs)
  | .land => oLL st (fun x y r => N ll (.inr (.inl (x &&& y)) :: r) h bc bs)
  | .lor => oLL st (fun x y r => N ll (.inr (.inl (x ||| y)) :: r) h bc bs)
  | .lxor => oLL st (fun x y r => N ll (.inr (.inl (x ^^^ y)) :: r) h bc bs)
  | .lshl => oLI st (fun x y r => N ll (.inr (.inl (x <<< (y.toInt64 &&& 63))) :: r) h bc bs)
  | .lshr => oLI st (fun x y r => N ll (.inr (.inl (x >>> (y.toInt64 &&& 63))) :: r) h bc bs)
  | .lushr => oLI st (fun x y r => N ll (.inr (.inl (x.toUInt64 >>> (y.toInt64.toUInt64 &&& Int64.toUInt64 63)).toInt64) :: r) h bc bs)
  | .lcmp => oLL st (fun x y r => N ll (.inl (lg_cmp x y) :: r) h bc bs)
  | .i2l => oI st (fun x r => N ll (.inr (.inl x.toInt64) :: r) h bc bs)
  | .l2i => oL st (fun x r => N ll (.inl x.toInt32 :: r) h bc bs)
  | .i2c => oI st (fun x r => N ll (.inl (x.toUInt32 % 65536).toInt32 :: r) h bc bs)
  | .pop => (match st with
    | v :: r => ifB (Nat.beq (cw v) 1) (N ll r h bc bs)
    | _ => False)
  | .dup => (match st with
    | v :: r => ifB (Nat.beq (cw v) 1) (N ll (v :: v :: r) h bc bs)
    | _ => False)
  | .dup_x1 => (match st with
    | v :: u :: r => ifB (Nat.beq (cw v) 1) (ifB (Nat.beq (cw u) 1) (N ll (v :: u :: v :: r) h bc bs))
    | _ => False)
  | .dup2 => (match st with
    | .inr (.inl v) :: r => N ll (.inr (.inl v) :: .inr (.inl v) :: r) h bc bs
    | v :: u :: r => ifB (Nat.beq (cw v) 1) (ifB (Nat.beq (cw u) 1) (N ll (v :: u :: v :: u :: r) h bc bs))
    | _ => False)
  | .ifCond k _ => oI st (fun x r => cI1 k x (J ll r h bc bs) (E ll r h bc bs))
  | .if_icmp k _ => oII st (fun x y r => cI2 k x y (J ll r h bc bs) (E ll r h bc bs))
  | .if_acmp k _ => oRR st (fun x y r => ((x = 24 ∧ y = 24) ∨ (rOK x ∧ rOK y)) ∧ (match k with
    | .eq => (x = y → J ll r h bc bs) ∧ (¬ x = y → E ll r h bc bs)
    | .ne => (¬ x = y → J ll r h bc bs) ∧ (x = y → E ll r h bc bs)))
  | .ifnull _ => oR st (fun x r => (x = 0 → J ll r h bc bs) ∧ (¬ x = 0 → E ll r h bc bs))
  | .ifnonnull _ => oR st (fun x r => (¬ x = 0 → J ll r h bc bs) ∧ (x = 0 → E ll r h bc bs))
  | .goto _ => J ll st h bc bs
  | .tableswitch dflt lo hi offs => oI st (fun x r => swc x lo offs.toList (fun o => G ((pc : Int) + o).toNat ll r h bc bs) ∧ ((x.toInt < lo ∨ hi < x.toInt) → G ((pc : Int) + dflt).toNat ll r h bc bs))
  | .getfield idx => aGet X lm (fun st => N ll st h bc bs) idx st h
  | .putfield idx => aPut X lm (fun st h => N ll st h bc bs) idx st h
  | .getstatic idx => aStat X (fun st => N ll st h bc bs) idx st
  | .new idx => aNew X (fun st h bc bs => N ll st h bc bs) idx st h bc bs
  | .newarray t => aArr (fun st h bc bs => N ll st h bc bs) t st h bc bs
  | .anewarray _ => oI st (fun n r => ¬ n < 0 ∧ n.toNatClampNeg ≤ 60000 ∧ ∃ b2 s2 : Nat, bc = b2 + 1 ∧ bs = s2 + n.toNatClampNeg ∧ N ll (.inr (.inr (hZ h)) :: r) (tR (nW h 104) (hZ h) (List.replicate n.toNatClampNeg 0)) b2 s2)
  | .arraylength => oR st (fun a r => (hC h a = 101 ∧ N ll (.inl (nI (aI h a).length) :: r) h bc bs) ∨ (hC h a = 104 ∧ N ll (.inl (nI (aR h a).length) :: r) h bc bs) ∨ ((hC h a = 105 ∨ hC h a = 106) ∧ N ll (.inl (nI (aI h a).length) :: r) h bc bs))
  | .iaload => oRI st (fun a j r => ixI h a j ∧ N ll (.inl ((aI h a).getD j.toNatClampNeg 0) :: r) h bc bs)
  | .baload => oRI st (fun a j r => ixZ h a j ∧ N ll (.inl ((aI h a).getD j.toNatClampNeg 0) :: r) h bc bs)
  | .laload => oRI st (fun a j r => ixL h a j ∧ N ll (.inr (.inl ((aL h a).getD j.toNatClampNeg 0)) :: r) h bc bs)
  | .aaload => oRI st (fun a j r => ixR h a j ∧ N ll (.inr (.inr ((aR h a).getD j.toNatClampNeg 0)) :: r) h bc bs)
  | .iastore => oI st (fun x r => oRI r (fun a j r => jxI h a j ∧ N ll r (tI h a ((aI h a).set j.toNatClampNeg x)) bc bs))
  | .bastore => oI st (fun x r => oRI r (fun a j r => jxZ h a j ∧ (x = 0 ∨ x = 1) ∧ N ll r (tI h a ((aI h a).set j.toNatClampNeg x)) bc bs))
  | .lastore => oL st (fun x r => oRI r (fun a j r => ixL h a j ∧ N ll r (tL h a ((aL h a).set j.toNatClampNeg x)) bc bs))
  | .aastore => oR st (fun x r => oRI r (fun a j r => (ixR h a j ∧ 32 ≤ a ∧ eOK h x) ∧ N ll r (tR h a ((aR h a).set j.toNatClampNeg x)) bc bs))
  | .checkcast idx => oR st (fun a r => (match lk X.2.2.2.2.2.1 idx with
    | some ci => a = 0 ∨ hC h a = ci + 1
    | none => hC h a = 104) ∧ N ll st h bc bs)
  | .invokevirtual idx => aCall l w X d lm (fun st => N ll st h bc bs) (fun st h => N ll st h bc bs) (fun v r h c s => E ll (v.toList ++ r) h c s) idx st h bc bs
  | .invokestatic idx => aCall l w X d lm (fun st => N ll st h bc bs) (fun st h => N ll st h bc bs) (fun v r h c s => E ll (v.toList ++ r) h c s) idx st h bc bs
  | .invokespecial idx => aCall l w X d lm (fun st => N ll st h bc bs) (fun st h => N ll st h bc bs) (fun v r h c s => E ll (v.toList ++ r) h c s) idx st h bc bs
  | .invokeinterface idx _ => aCall l w X d lm (fun st => N ll st h bc bs) (fun st h => N ll st h bc bs) (fun v r h c s => E ll (v.toList ++ r) h c s) idx st h bc bs
  | .ireturn => oI st (fun x r => (match r with
    | [] => (match X.1.2.2.2 with
      | some .int => Q (some (.inl x)) h
      | some .char => (x.toUInt32 % 65536).toInt32 = x ∧ Q (some (.inl x)) h
      | some .byte => x = 0 ∧ Q (some (.inl x)) h
      | some .boolean => (x = 0 ∨ x = 1) ∧ Q (some (.inl x)) h
      | _ => False)
    | _ => False))
  | .lreturn => oL st (fun x r => (match r with
    | [] => Q (some (.inr (.inl x))) h
    | _ => False))
  | .areturn => oR st (fun x r => (match r with
    | [] => Q (some (.inr (.inr x))) h
    | _ => False))
  | .return_ => (match st with
    | [] => Q none h
    | _ => False)
  | _ => False
/-- goes on as long as there is no choice; ends at a branch, a call, a return, a loop's head -/
def awp (l : Launch) (w : WD) (lm : Bool) (X : MD) (d : Nat) (Q : Option AV → AH → Prop) : Nat → List CE → List (Option AV) → List AV → AH → Nat → Nat → Prop
  | _, [], _, _, _, _, _ => False
  | 0, e :: _, ll, st, h, bc, bs => Ex l w lm X d Q e.1 ll st h bc bs
  | k + 1, (pc, i, _, nx, tg, cv, cl, _) :: cs, ll, st, h, bc, bs => match i with
    | .goto _ => (match sfx X.2.1 tg with
      | [] => False
      | e :: cs' => match e.2.2.2.2.2.2.2 with
        | false => awp l w lm X d Q k (e :: cs') ll st h bc bs
        | true => Ex l w lm X d Q tg ll st h bc bs)
    | i => aop l w lm X d Q
      (fun ll st h bc bs => match cs with
        | [] => False
        | e :: cs' => match Nat.beq e.1 nx, e.2.2.2.2.2.2.2 with
          | true, false => awp l w lm X d Q k (e :: cs') ll st h bc bs
          | _, _ => Ex l w lm X d Q nx ll st h bc bs)
      (fun ll st h bc bs => Ex l w lm X d Q tg ll st h bc bs)
      (fun t ll st h bc bs => Ex l w lm X d Q t ll st h bc bs)
      (fun ll st h bc bs => Ex l w lm X d Q nx ll st h bc bs)
      i pc cv cl ll st h bc bs

def ilen (i : Instr) (n : Nat) : Nat := match i with
  | .iload _ | .lload _ | .aload _ | .istore _ | .lstore _ | .astore _ | .bipush _ | .ldc _ | .newarray _ => 2
  | .sipush _ | .iinc _ _ | .goto _ | .ifCond _ _ | .if_icmp _ _ | .if_acmp _ _ | .ifnull _ | .ifnonnull _ | .getfield _ | .putfield _ | .getstatic _ | .ldc_w _ | .ldc2_w _ | .new _ | .anewarray _ | .checkcast _ | .invokevirtual _ | .invokestatic _ | .invokespecial _ => 3
  | .invokeinterface _ _ => 5
  | .tableswitch _ _ _ _ => n
  | _ => 1
/-- what a program looks at: the decoded instruction, where it goes, its number -/
def ceB (X : MD) (e : CE) : Bool := decide (decode X.1.2.1 e.1 = .ok (e.2.1, e.2.2.1)) && (Nat.beq e.2.2.2.1 (e.1 + e.2.2.1) && (Nat.beq (ilen e.2.1 e.2.2.1) e.2.2.1 && (match e.2.1 with
  | .iconst v => decide (Int32.ofInt v = e.2.2.2.2.2.1)
  | .bipush v => decide ((Int8.ofInt v).toInt32 = e.2.2.2.2.2.1)
  | .sipush v => decide ((Int16.ofInt v).toInt32 = e.2.2.2.2.2.1)
  | .lconst k => decide (Int64.ofNat k.val = e.2.2.2.2.2.2.1)
  | .iinc _ v => decide (Int32.ofInt v = e.2.2.2.2.2.1)
  | .ldc2_w idx => decide (lk X.2.2.2.2.2.2.2.2.2 idx = some e.2.2.2.2.2.2.1)
  | .ldc_w idx => decide (lk X.2.2.2.2.2.2.2.2.1 idx = some e.2.2.2.2.2.1)
  | .goto o => decide ((e.1 : Int) + o = (e.2.2.2.2.1 : Int))
  | .ifCond _ o => decide ((e.1 : Int) + o = (e.2.2.2.2.1 : Int))
  | .if_icmp _ o => decide ((e.1 : Int) + o = (e.2.2.2.2.1 : Int))
  | .if_acmp _ o => decide ((e.1 : Int) + o = (e.2.2.2.2.1 : Int))
  | .ifnull o => decide ((e.1 : Int) + o = (e.2.2.2.2.1 : Int))
  | .ifnonnull o => decide ((e.1 : Int) + o = (e.2.2.2.2.1 : Int))
  | .tableswitch dflt lo hi offs => decide (hi + 1 = lo + offs.toList.length) && decide (0 ≤ (e.1 : Int) + dflt) && offs.toList.all (fun o => decide (0 ≤ (e.1 : Int) + o))
  | .putfield idx => (match lk X.2.2.1 idx with
    | some (ci, k, _) => (match vwCl[ci]? with
      | some q => !(q.2.1 k).2.2.2 || (decide (X.1.1.name = "<init>") && decide ((q.2.1 k).1 = X.1.1.cls))
      | none => false)
    | none => true)
  | .lreturn => decide (X.1.2.2.2 = some .long)
  | .return_ => decide (X.1.2.2.2 = none)
  | .areturn => (match X.1.2.2.2 with
    | some (.object _) => true
    | some (.array _) => true
    | _ => false)
  | .anewarray idx => (decide (X.1.1.cls = "java/util/ArrayList") && Nat.beq idx 7) || (decide (X.1.1.cls = "java/util/Arrays") && Nat.beq idx 2)
  | .checkcast idx => (lk X.2.2.2.2.2.1 idx).isSome || (decide (X.1.1.cls = "java/util/Arrays") && Nat.beq idx 110)
  | .invokevirtual idx => (match lk X.2.2.2.1 idx with
    | some (kd, _) => Nat.beq kd 0 || Nat.beq kd 7
    | none => true)
  | .invokestatic idx => (match lk X.2.2.2.1 idx with
    | some (kd, _) => Nat.beq kd 1 || Nat.beq kd 6 || Nat.beq kd 8 || Nat.beq kd 9
    | none => true)
  | .invokespecial idx => (match lk X.2.2.2.1 idx with
    | some (kd, _) => Nat.beq kd 2 || Nat.beq kd 3 || Nat.beq kd 5
    | none => true)
  | .invokeinterface idx _ => (match lk X.2.2.2.1 idx with
    | some (kd, _) => Nat.beq kd 4
    | none => true)
  | _ => true)))
def tagN (t : Nat) : String := if t = 12 then "java/lang/String" else match vwCl[t - 1]? with
  | some q => q.1
  | none => ""
/-- what a pool's rows say by the tables -/
def plF (own : String) (q : Nat × Nat × Nat × Nat × Nat) : Prop := ∃ (r : vw_C) (ref : String), vwCl[q.2.1]? = some r ∧ q.2.2.1 < r.2.2 ∧ q.2.2.2.2 = 64 * q.2.1 + q.2.2.1 ∧ q.2.2.2.1 = fK (fT q.2.1 q.2.2.1) ∧ Cond.fieldLink own q.1 ref (r.2.1 q.2.2.1).2.1 (r.2.1 q.2.2.1).2.2.1 ∈ lw_tbl ∧ (ref = (r.2.1 q.2.2.1).1 ∨ Cond.sameField ref (r.2.1 q.2.2.1).1 (r.2.1 q.2.2.1).2.1 (r.2.1 q.2.2.1).2.2.1 ∈ lw_tbl)
def plHead (np : Nat) (M : MH) : Prop := Cond.code M.1 M.2.1 M.2.2.1 M.2.2.2 ∈ lw_tbl ∧ Cond.initialized M.1.cls ∈ lw_tbl ∧ M.2.2.1 ≤ 13 ∧ M.1.cls ≠ "java/lang/invoke/MethodHandle" ∧ M.1.cls ≠ "java/lang/invoke/VarHandle" ∧ (parseMethodDescriptor M.1.desc).map (fun d => d.parameters.length) = some np
def lName (M : MH) : MethodName := ⟨"java/util/List", M.1.name, M.1.desc⟩
def plM (own : String) (q : Nat × Nat × Nat × Nat × MH) : Prop := match q.2.1 with
  | 0 => plHead q.2.2.2.1 q.2.2.2.2 ∧ Cond.methodLink own q.1 q.2.2.2.2.1 ∈ lw_tbl ∧ Cond.instanceMethod q.2.2.2.2.1 ∈ lw_tbl ∧ Cond.selects (tagN q.2.2.1) q.2.2.2.2.1 q.2.2.2.2.1 ∈ lw_tbl ∧ q.2.2.2.2.1.cls = tagN q.2.2.1 ∧ (q.2.2.1 = 12 ∨ ∃ ci r, q.2.2.1 = ci + 1 ∧ vwCl[ci]? = some r)
  | 1 => plHead q.2.2.2.1 q.2.2.2.2 ∧ Cond.methodLink own q.1 q.2.2.2.2.1 ∈ lw_tbl ∧ Cond.static q.2.2.2.2.1 ∈ lw_tbl
  | 2 => plHead q.2.2.2.1 q.2.2.2.2 ∧ Cond.methodLink own q.1 q.2.2.2.2.1 ∈ lw_tbl ∧ Cond.instanceMethod q.2.2.2.2.1 ∈ lw_tbl ∧ q.2.2.2.2.1.name = "<init>" ∧ q.2.2.2.2.2.2.2 = none ∧ ∃ ci r, q.2.2.1 = ci + 1 ∧ vwCl[ci]? = some r
  | 3 => plHead q.2.2.2.1 q.2.2.2.2 ∧ (∃ host, Cond.methodLinkNest own q.1 q.2.2.2.2.1 host ∈ lw_tbl) ∧ Cond.instanceMethod q.2.2.2.2.1 ∈ lw_tbl ∧ q.2.2.2.2.1.name = "<init>" ∧ q.2.2.2.2.2.2.2 = none ∧ ∃ ci r, q.2.2.1 = ci + 1 ∧ vwCl[ci]? = some r
  | 4 => plHead q.2.2.2.1 q.2.2.2.2 ∧ q.2.2.1 = 1 ∧ Cond.methodLink own q.1 (lName q.2.2.2.2) ∈ lw_tbl ∧ Cond.selects "java/util/ArrayList" (lName q.2.2.2.2) q.2.2.2.2.1 ∈ lw_tbl ∧ Cond.instanceMethod q.2.2.2.2.1 ∈ lw_tbl ∧ q.2.2.2.2.1 ∈ fwN ∧ q.2.2.2.2.1.cls = "java/util/ArrayList"
  | 5 => Cond.methodLink own q.1 Lib.objectInit ∈ lw_tbl
  | 6 => Cond.methodLink own q.1 arraycopyName ∈ lw_tbl
  | 7 => Cond.methodLink own q.1 ⟨"java/lang/Object", "getClass", "()Ljava/lang/Class;"⟩ ∈ lw_tbl
  | 8 => Cond.methodLink own q.1 ⟨"java/lang/Math", "max", "(II)I"⟩ ∈ lw_tbl
  | 9 => Cond.methodLink own q.1 ⟨"java/lang/Math", "min", "(II)I"⟩ ∈ lw_tbl
  | _ => False
def plOK (own : String) (P : PL) : Prop :=
  (∀ q ∈ P.1, plF own q) ∧ (∀ q ∈ P.2.1, plM own q) ∧
  (∀ q ∈ P.2.2.1, (q.2.1 = 1 ∧ ∃ i tx, q.2.2 = 2 + i ∧ sAt[i]? = some (own, q.1, tx)) ∨ (q.2.1 = 2 ∧ q.2.2 = 24 ∧ Cond.classLink own q.1 "[Ljava/lang/Object;" ∈ lw_tbl)) ∧
  (∀ q ∈ P.2.2.2.1, ∃ r : vw_C, vwCl[q.2]? = some r ∧ Cond.classLink own q.1 r.1 ∈ lw_tbl ∧ Cond.instantiable r.1 r.2.2 ∈ lw_tbl ∧ Cond.initialized r.1 ∈ lw_tbl) ∧
  (∀ q ∈ P.2.2.2.2.1, (q.2 = 0 ∧ Cond.fieldLink own q.1 "java/util/ArrayList" "DEFAULTCAPACITY_EMPTY_ELEMENTDATA" "[Ljava/lang/Object;" ∈ lw_tbl) ∨ (q.2 = 1 ∧ Cond.fieldLink own q.1 "java/lang/String" "COMPACT_STRINGS" "Z" ∈ lw_tbl) ∨ (q.2 = 2 ∧ Cond.fieldLink own q.1 "jdk/internal/util/Preconditions" "SIOOBE_FORMATTER" "Ljava/util/function/BiFunction;" ∈ lw_tbl)) ∧
  (∀ q ∈ P.2.2.2.2.2.1, (q.2 = 0 ∧ Cond.fieldLink own q.1 "java/lang/String" "value" "[B" ∈ lw_tbl) ∨ (q.2 = 1 ∧ Cond.fieldLink own q.1 "java/lang/String" "coder" "B" ∈ lw_tbl)) ∧
  (∀ q ∈ P.2.2.2.2.2.2.1, Cond.constant own q.1 q.2 ∈ lw_tbl) ∧ (∀ q ∈ P.2.2.2.2.2.2.2, Cond.constantLong own q.1 q.2 ∈ lw_tbl)
def mdOK (X : MD) : Prop := (X.2.1.all (ceB X) = true) ∧ plOK X.1.1.cls X.2.2 ∧ X.1.2.2.1 ≤ 13 ∧ plainName X.1.1.cls = true
