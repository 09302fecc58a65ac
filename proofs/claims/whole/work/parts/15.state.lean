/-! ===== the whole state ===== -/
abbrev RT : Type := List Int32 × List Int32 × Int32 × Int32 × Int64
abbrev CLS : Type := Int32 × Int32 × Int32
/-- now, doors, looks, houses, rights (never, let, night, patience, clothes), text, fault, programs, the whole -/
abbrev SG : Type := Int32 × List Int32 × List LK × List Int64 × RT × List Int32 × Int32 × List (List CLS) × List Nat
def gNw (S : SG) : Int32 := S.1
def gDs (S : SG) : List Int32 := S.2.1
def gD (S : SG) : List LK := S.2.2.1
def gHs (S : SG) : List Int64 := S.2.2.2.1
def gRt (S : SG) : RT := S.2.2.2.2.1
def gTx (S : SG) : List Int32 := S.2.2.2.2.2.1
def gFl (S : SG) : Int32 := S.2.2.2.2.2.2.1
def gPr (S : SG) : List (List CLS) := S.2.2.2.2.2.2.2.1
def gWh (S : SG) : List Nat := S.2.2.2.2.2.2.2.2
def gNv (S : SG) : List Int32 := (gRt S).1
def gLt (S : SG) : List Int32 := (gRt S).2.1
def gNg (S : SG) : Int32 := (gRt S).2.2.1
def gPt (S : SG) : Int32 := (gRt S).2.2.2.1
def gCl (S : SG) : Int64 := (gRt S).2.2.2.2
def M2 (ds : List Int32) (h : AH) : Prop := hI h 641 62 = nI ds.length ∧ ds.length ≤ 12 ∧ ∀ i, i < ds.length → (aI h 63).getD i 0 = ds.getD i 0
def M5 (r : RT) (h : AH) : Prop := aI h 70 = r.1 ∧ aI h 71 = r.2.1 ∧ hI h 652 62 = r.2.2.1 ∧ hI h 653 62 = r.2.2.2.1 ∧ hL h 654 62 = r.2.2.2.2
def M6 (tx : List Int32) (h : AH) : Prop := hI h 658 62 = nI tx.length ∧ tx.length ≤ 200 ∧ ∀ i, i < tx.length → (aI h 73).getD i 0 = tx.getD i 0
def prD (pr : List (List CLS)) (p : Nat) : List CLS := pr.getD p []
def M8 (pr : List (List CLS)) (h : AH) : Prop := ∀ p, p < 12 → (prD pr p).length ≤ 8 ∧ (aI h 76).getD p 0 = nI (prD pr p).length ∧ ∀ k, k < (prD pr p).length → (aI h 77).getD (8 * p + k) 0 = ((prD pr p).getD k (0, 0, 0)).1 ∧ (aI h 78).getD (8 * p + k) 0 = ((prD pr p).getD k (0, 0, 0)).2.1 ∧ (aI h 79).getD (8 * p + k) 0 = ((prD pr p).getD k (0, 0, 0)).2.2
def M9 (wh : List Nat) (h : AH) : Prop := hI h 677 62 = nI wh.length ∧ wh.length ≤ 8 ∧ rowIs (aI h 83) wh
/-- the reference's cells tell the state -/
def RM (S : SG) (h : AH) : Prop := hI h 640 62 = gNw S ∧ M2 (gDs S) h ∧ M3 (gD S) h ∧ aL h 69 = gHs S ∧ M5 (gRt S) h ∧ M6 (gTx S) h ∧ hI h 661 62 = gFl S ∧ M8 (gPr S) h ∧ M9 (gWh S) h
/-- only the reference's cells have changed -/
def OM (h h' : AH) : Prop := (∀ n, hC h' n = hC h n) ∧ (∀ f a, f < 640 → hI h' f a = hI h f a ∧ hL h' f a = hL h f a ∧ hR h' f a = hR h f a) ∧ (∀ a, a < 63 ∨ 88 ≤ a → aI h' a = aI h a ∧ aL h' a = aL h a) ∧ (∀ a, aR h' a = aR h a) ∧ hZ h' = hZ h
theorem OM.rf (h : AH) : OM h h := ⟨fun _ => rfl, fun _ _ _ => ⟨rfl, rfl, rfl⟩, fun _ _ => ⟨rfl, rfl⟩, fun _ => rfl, rfl⟩
theorem OM.tr {h h' h'' : AH} (a : OM h h') (b : OM h' h'') : OM h h'' :=
  ⟨fun n => (b.1 n).trans (a.1 n), fun f x hf => ⟨(b.2.1 f x hf).1.trans (a.2.1 f x hf).1, (b.2.1 f x hf).2.1.trans (a.2.1 f x hf).2.1, (b.2.1 f x hf).2.2.trans (a.2.1 f x hf).2.2⟩, fun x hx => ⟨(b.2.2.1 x hx).1.trans (a.2.2.1 x hx).1, (b.2.2.1 x hx).2.trans (a.2.2.1 x hx).2⟩, fun x => (b.2.2.2.1 x).trans (a.2.2.2.1 x), b.2.2.2.2.trans a.2.2.2.2⟩
theorem OM.s {h h' : AH} {f a : Nat} {v : Int32} (b : OM h h') (hf : 640 ≤ f) : OM h (sI h' f a v) := b.tr
  ⟨fun _ => rfl, fun g x hg => ⟨by show up2 (hI h') f a v g x = hI h' g x; unfold up2; rw [if_neg (fun z => by omega)], rfl, rfl⟩, fun _ _ => ⟨rfl, rfl⟩, fun _ => rfl, rfl⟩
theorem OM.sl {h h' : AH} {f a : Nat} {v : Int64} (b : OM h h') (hf : 640 ≤ f) : OM h (sL h' f a v) := b.tr
  ⟨fun _ => rfl, fun g x hg => ⟨rfl, by show up2 (hL h') f a v g x = hL h' g x; unfold up2; rw [if_neg (fun z => by omega)], rfl⟩, fun _ _ => ⟨rfl, rfl⟩, fun _ => rfl, rfl⟩
theorem OM.t {h h' : AH} {a : Nat} {v : List Int32} (b : OM h h') (ha : 63 ≤ a ∧ a < 88) : OM h (tI h' a v) := b.tr
  ⟨fun _ => rfl, fun g x hg => ⟨rfl, rfl, rfl⟩, fun x hx => ⟨by show up1 (aI h') a v x = aI h' x; exact up1_ne (by omega), rfl⟩, fun _ => rfl, rfl⟩
theorem OM.tl {h h' : AH} {a : Nat} {v : List Int64} (b : OM h h') (ha : 63 ≤ a ∧ a < 88) : OM h (tL h' a v) := b.tr
  ⟨fun _ => rfl, fun g x hg => ⟨rfl, rfl, rfl⟩, fun x hx => ⟨rfl, by show up1 (aL h') a v x = aL h' x; exact up1_ne (by omega)⟩, fun _ => rfl, rfl⟩
theorem OM.v {h h' : AH} {r : List Int32} {v : Int32} (b : OM h h') : OM h (vw h' r v) := (b.t (a := 72) (v := r) (by decide)).s (f := 656) (a := 62) (v := v) (by decide)
theorem RM.v {S : SG} {h : AH} {r : List Int32} {v : Int32} (hM : RM S h) : RM S (vw h r v) := hM
/-- none of the reference's cells has changed -/
def OX (h h' : AH) : Prop := (∀ f, 640 ≤ f → hI h' f 62 = hI h f 62 ∧ hL h' f 62 = hL h f 62) ∧ (∀ a, 63 ≤ a → a < 88 → aI h' a = aI h a ∧ aL h' a = aL h a)
theorem OX.rf (h : AH) : OX h h := ⟨fun _ _ => ⟨rfl, rfl⟩, fun _ _ _ => ⟨rfl, rfl⟩⟩
theorem OX.tr {h h' h'' : AH} (a : OX h h') (b : OX h' h'') : OX h h'' := ⟨fun f hf => ⟨(b.1 f hf).1.trans (a.1 f hf).1, (b.1 f hf).2.trans (a.1 f hf).2⟩, fun x h1 h2 => ⟨(b.2 x h1 h2).1.trans (a.2 x h1 h2).1, (b.2 x h1 h2).2.trans (a.2 x h1 h2).2⟩⟩
theorem RM.ox {S : SG} {h h' : AH} (hM : RM S h) (hx : OX h h') : RM S h' := by
  have i := fun f hf => (hx.1 f hf).1
  have j := fun f hf => (hx.1 f hf).2
  have a := fun x h1 h2 => (hx.2 x h1 h2).1
  have b := fun x h1 h2 => (hx.2 x h1 h2).2
  unfold RM M2 M3 M5 M6 M8 M9 at *
  rw [i 640 (by decide), i 641 (by decide), i 643 (by decide), i 652 (by decide), i 653 (by decide), j 654 (by decide), i 658 (by decide), i 661 (by decide), i 677 (by decide), a 63 (by decide) (by decide), a 64 (by decide) (by decide), a 65 (by decide) (by decide), a 66 (by decide) (by decide), b 67 (by decide) (by decide), a 68 (by decide) (by decide), b 69 (by decide) (by decide), a 70 (by decide) (by decide), a 71 (by decide) (by decide), a 73 (by decide) (by decide), a 76 (by decide) (by decide), a 77 (by decide) (by decide), a 78 (by decide) (by decide), a 79 (by decide) (by decide), a 83 (by decide) (by decide)]
  exact hM

