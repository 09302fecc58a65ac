/-! ===== the JDK's bitCount ===== -/
theorem n_and {a b c e : Nat} (hb : b < 256) (he : e < 256) : (256 * a + b) &&& (256 * c + e) = 256 * (a &&& c) + (b &&& e) := by
  have h1 : ((256 * a + b) &&& (256 * c + e)) / 2 ^ 8 = a &&& c := by
    rw [Nat.and_div_two_pow, show (256 * a + b) / 2 ^ 8 = a by omega, show (256 * c + e) / 2 ^ 8 = c by omega]
  have h2 : ((256 * a + b) &&& (256 * c + e)) % 2 ^ 8 = b &&& e := by
    rw [Nat.and_mod_two_pow, show (256 * a + b) % 2 ^ 8 = b by omega, show (256 * c + e) % 2 ^ 8 = e by omega]
  omega
/-- n bytes, each b -/
def mkB (b : Nat) : Nat → Nat
  | 0 => 0
  | n + 1 => 256 * mkB b n + b
def sw1 (n x : Nat) : Nat := x - (x / 2 &&& mkB 85 n)
def sw2 (n x : Nat) : Nat := (x &&& mkB 51 n) + (x / 4 &&& mkB 51 n)
def sw3 (n x : Nat) : Nat := (x + x / 16) &&& mkB 15 n
def by1 (r : Nat) : Nat := r - (r / 2 &&& 85)
def by2 (r : Nat) : Nat := (r &&& 51) + (r / 4 &&& 51)
def pcB (r : Nat) : Nat := ctB (fun i => r.testBit i) 8
theorem by_1 : ∀ a, a < 2 → ∀ r, r < 256 → (128 * a + r / 2) &&& 85 = r / 2 &&& 85 := by decide +kernel
theorem by_2 : ∀ a, a < 4 → ∀ r, r < 256 → (64 * a + r / 4) &&& 51 = r / 4 &&& 51 := by decide +kernel
theorem by_r : ∀ r, r < 256 → (r / 2 &&& 85) ≤ r ∧ by1 r < 256 ∧ by2 (by1 r) % 16 ≤ 4 ∧ by2 (by1 r) ≤ 68 ∧ pcB r ≤ 8 := by decide +kernel
theorem by_3 : ∀ a, a < 5 → ∀ r, r < 256 → (16 * a + by2 (by1 r) + by2 (by1 r) / 16) &&& 15 = pcB r := by decide +kernel
theorem sw1_s (n : Nat) {q r : Nat} (hr : r < 256) : sw1 (n + 1) (256 * q + r) = 256 * sw1 n q + by1 r := by
  unfold sw1 by1
  have e : (256 * q + r) / 2 = 256 * (q / 2) + (128 * (q % 2) + r / 2) := by omega
  rw [e, mkB, n_and (by omega) (by omega), by_1 _ (by omega) r hr]
  have h1 := (by_r r hr).1
  have h2 : (q / 2 &&& mkB 85 n) ≤ q / 2 := Nat.and_le_left
  omega
theorem sw2_s (n : Nat) {q r : Nat} (hr : r < 256) : sw2 (n + 1) (256 * q + r) = 256 * sw2 n q + by2 r := by
  unfold sw2 by2
  have e : (256 * q + r) / 4 = 256 * (q / 4) + (64 * (q % 4) + r / 4) := by omega
  rw [e, mkB, n_and (by omega) (by omega), n_and (by omega) (by omega), by_2 _ (by omega) r hr]
  omega
theorem sw_lo (n : Nat) : ∀ q, sw2 n (sw1 n q) % 16 ≤ 4 ∨ n = 0 := by
  intro q
  cases n with
  | zero => exact Or.inr rfl
  | succ n =>
    refine Or.inl ?_
    have hr : q % 256 < 256 := Nat.mod_lt _ (by decide)
    rw [show q = 256 * (q / 256) + q % 256 by omega, sw1_s n hr, sw2_s n (by_r _ hr).2.1]
    have := (by_r _ hr).2.2.1
    omega
theorem sw3_s (n : Nat) {q r : Nat} (hr : r < 256) (hn : n = 0 → q = 0) : sw3 (n + 1) (sw2 (n + 1) (sw1 (n + 1) (256 * q + r))) = 256 * sw3 n (sw2 n (sw1 n q)) + pcB r := by
  rw [sw1_s n hr, sw2_s n (by_r _ hr).2.1]
  have h4 : sw2 n (sw1 n q) % 16 ≤ 4 := by
    rcases sw_lo n q with z | z
    · exact z
    · rw [z, hn z]; decide
  generalize sw2 n (sw1 n q) = y at h4
  unfold sw3
  have h5 := (by_r r hr).2.2.2.1
  have e : 256 * y + by2 (by1 r) + (256 * y + by2 (by1 r)) / 16 = 256 * (y + y / 16) + (16 * (y % 16) + by2 (by1 r) + by2 (by1 r) / 16) := by omega
  rw [e, mkB, n_and (by omega) (by omega), by_3 _ (by omega) r hr]
/-- by the bytes -/
def pcs : Nat → Nat → Nat
  | 0, _ => 0
  | n + 1, x => 256 * pcs n (x / 256) + pcB (x % 256)
theorem sw_pcs : ∀ (n x : Nat), x < 256 ^ n → sw3 n (sw2 n (sw1 n x)) = pcs n x
  | 0, x, hx => by
    have : x = 0 := by simpa using hx
    subst this; rfl
  | n + 1, x, hx => by
    have hr : x % 256 < 256 := Nat.mod_lt _ (by decide)
    have hq : x / 256 < 256 ^ n := by rw [Nat.pow_succ] at hx; omega
    have e := sw3_s n (q := x / 256) hr (fun z => by subst z; simpa using hq)
    rw [show 256 * (x / 256) + x % 256 = x by omega] at e
    rw [e, sw_pcs n _ hq]; rfl
theorem ct_byte (x m : Nat) : ctB (fun i => x.testBit i) (8 + m) = pcB (x % 256) + ctB (fun i => (x / 256).testBit i) m := by
  rw [ctB_add]
  congr 1
  · unfold pcB
    exact ctB_cong 8 (fun i hi => by rw [show 256 = 2 ^ 8 from rfl, Nat.testBit_mod_two_pow]; simp [hi])
  · exact ctB_cong m (fun i _ => by rw [show 256 = 2 ^ 8 from rfl, Nat.testBit_div_two_pow, Nat.add_comm])
theorem pcB_8 (r : Nat) : pcB r ≤ 8 := ctB_le _ 8
def un (x : Int64) : Nat := x.toBitVec.toNat
theorem un_lt (x : Int64) : un x < 2 ^ 64 := x.toBitVec.isLt
theorem un_and (x y : Int64) : un (x &&& y) = un x &&& un y := by unfold un; rw [Int64.toBitVec_and, BitVec.toNat_and]
theorem un_add (x y : Int64) : un (x + y) = (un x + un y) % 2 ^ 64 := by unfold un; rw [Int64.toBitVec_add, BitVec.toNat_add]
theorem un_sub (x y : Int64) (h : un y ≤ un x) : un (x - y) = un x - un y := by
  have h1 := un_lt x
  unfold un at *
  rw [Int64.toBitVec_sub, BitVec.toNat_sub]
  omega
theorem un_shr (x : Int64) {n : Nat} (hn : n < 64) : un ((x.toUInt64 >>> ((nI n).toInt64.toUInt64 &&& Int64.toUInt64 63)).toInt64) = un x / 2 ^ n := by
  show (x.toUInt64 >>> ((nI n).toInt64.toUInt64 &&& Int64.toUInt64 63)).toBitVec.toNat = x.toUInt64.toBitVec.toNat / 2 ^ n
  rw [UInt64.toBitVec_shiftRight]
  show (x.toUInt64.toBitVec >>> (((nI n).toInt64.toUInt64 &&& Int64.toUInt64 63).toBitVec % 64).toNat).toNat = _
  rw [ls_u n hn, BitVec.toNat_ushiftRight, Nat.shiftRight_eq_div_pow]
def um (x : Int32) : Nat := x.toBitVec.toNat
theorem um_lt (x : Int32) : um x < 2 ^ 32 := x.toBitVec.isLt
theorem um_inj {x y : Int32} (h : um x = um y) : x = y := Int32.toBitVec_inj.mp (BitVec.eq_of_toNat_eq h)
theorem um_and (x y : Int32) : um (x &&& y) = um x &&& um y := by unfold um; rw [Int32.toBitVec_and, BitVec.toNat_and]
theorem um_add (x y : Int32) : um (x + y) = (um x + um y) % 2 ^ 32 := by unfold um; rw [Int32.toBitVec_add, BitVec.toNat_add]
theorem um_sub (x y : Int32) (h : um y ≤ um x) : um (x - y) = um x - um y := by
  have h1 := um_lt x
  unfold um at *
  rw [Int32.toBitVec_sub, BitVec.toNat_sub]
  omega
theorem um_shr (x : Int32) {n : Nat} (hn : n < 32) : um ((x.toUInt32 >>> ((nI n).toUInt32 &&& Int32.toUInt32 31)).toInt32) = um x / 2 ^ n := by
  show (x.toUInt32 >>> ((nI n).toUInt32 &&& Int32.toUInt32 31)).toBitVec.toNat = x.toUInt32.toBitVec.toNat / 2 ^ n
  rw [UInt32.toBitVec_shiftRight]
  show (x.toUInt32.toBitVec >>> (((nI n).toUInt32 &&& Int32.toUInt32 31).toBitVec % 32).toNat).toNat = _
  rw [s_u n hn, BitVec.toNat_ushiftRight, Nat.shiftRight_eq_div_pow]
theorem um_nI {n : Nat} (hn : n < 2 ^ 31) : um (nI n) = n := by
  show (BitVec.ofNat 32 n).toNat = n
  rw [BitVec.toNat_ofNat]; omega
theorem pcs_lt : ∀ (n x : Nat), pcs n x < 256 ^ n
  | 0, _ => by show 0 < 1; decide
  | n + 1, x => by
    have h1 := pcs_lt n (x / 256)
    have h2 := pcB_8 (x % 256)
    rw [pcs, Nat.pow_succ]; omega
theorem dv_1 {A B x : Nat} (h1 : A = 256 * B + x) (hx : x ≤ 8) : A / 256 = B := by omega
theorem dv_2 {A B C x y : Nat} (h1 : A = 256 * B + x) (h2 : B = 256 * C + y) (hx : x ≤ 16) (hy : y ≤ 16) : A / 65536 = C := by omega
theorem dv_4 {A B C D E x y z u : Nat} (h1 : A = 256 * B + x) (h2 : B = 256 * C + y) (h3 : C = 256 * D + z) (h4 : D = 256 * E + u) (hx : x ≤ 32) (hy : y ≤ 32) (hz : z ≤ 32) (hu : u ≤ 32) : A / 4294967296 = E := by omega
theorem ad_2 {A B C x y : Nat} (h1 : A = 256 * B + x) (h2 : B = 256 * C + y) : A + B = 256 * (B + C) + (x + y) := by omega
theorem ad_4 {A B C D E x y z u : Nat} (h1 : A = 256 * B + x) (h2 : B = 256 * C + y) (h3 : C = 256 * D + z) (h4 : D = 256 * E + u) : A + B + (C + D) = 256 * (B + C + (D + E)) + (x + y + (z + u)) := by omega
theorem up_1 {A B x n : Nat} (h1 : A = 256 * B + x) (hx : x ≤ 8) (hB : B ≤ n) : A ≤ 256 * n + 8 := by omega
theorem fold8 {r0 r1 r2 r3 r4 r5 r6 r7 p0 p1 p2 p3 p4 p5 p6 p7 : Nat} (h0 : p0 ≤ 8) (h1 : p1 ≤ 8) (h2 : p2 ≤ 8) (h3 : p3 ≤ 8) (h4 : p4 ≤ 8) (h5 : p5 ≤ 8) (h6 : p6 ≤ 8) (h7 : p7 ≤ 8)
    (e0 : r0 = 256 * r1 + p0) (e1 : r1 = 256 * r2 + p1) (e2 : r2 = 256 * r3 + p2) (e3 : r3 = 256 * r4 + p3) (e4 : r4 = 256 * r5 + p4) (e5 : r5 = 256 * r6 + p5) (e6 : r6 = 256 * r7 + p6) (e7 : r7 = 256 * 0 + p7) :
    r0 / 256 = r1 ∧ (r0 + r1) / 65536 = r2 + r3 ∧ (r0 + r1 + (r2 + r3)) / 4294967296 = r4 + r5 + (r6 + r7) ∧ (r0 + r1 + (r2 + r3) + (r4 + r5 + (r6 + r7))) % 128 = p0 + p1 + (p2 + p3) + (p4 + p5 + (p6 + p7)) ∧ r0 + r1 + (r2 + r3) + (r4 + r5 + (r6 + r7)) < 2 ^ 63 := by
  have t0 := ad_4 e0 e1 e2 e3
  have t1 := ad_4 e1 e2 e3 e4
  have t2 := ad_4 e2 e3 e4 e5
  have t3 := ad_4 e3 e4 e5 e6
  have t4 := ad_4 e4 e5 e6 e7
  have g7 : r7 ≤ 8 := by rw [e7]; omega
  have g6 : r6 ≤ 2056 := up_1 e6 h6 g7
  have g5 : r5 ≤ 526344 := up_1 e5 h5 g6
  have g4 : r4 ≤ 134744072 := up_1 e4 h4 g5
  have g3 : r3 ≤ 34494482440 := up_1 e3 h3 g4
  have g2 : r2 ≤ 8830587504648 := up_1 e2 h2 g3
  have g1 : r1 ≤ 2260630401189896 := up_1 e1 h1 g2
  have g0 : r0 ≤ 578721382704613384 := up_1 e0 h0 g1
  refine ⟨dv_1 e0 h0, dv_2 (ad_2 e0 e1) (ad_2 e1 e2) (by omega) (by omega), dv_4 t0 t1 t2 t3 (by omega) (by omega) (by omega) (by omega), ?_, ?_⟩
  · rw [t0, t4, show 256 * (r1 + r2 + (r3 + r4)) + (p0 + p1 + (p2 + p3)) + (256 * (r5 + r6 + (r7 + 0)) + (p4 + p5 + (p6 + p7))) = 128 * (2 * (r1 + r2 + (r3 + r4)) + 2 * (r5 + r6 + (r7 + 0))) + (p0 + p1 + (p2 + p3) + (p4 + p5 + (p6 + p7))) by clear t0 t1 t2 t3 t4 e0 e1 e2 e3 e4 e5 e6 e7 g0 g1 g2 g3 g4 g5 g6 g7; omega, Nat.mul_add_mod]
    exact Nat.mod_eq_of_lt (by clear t0 t1 t2 t3 t4 e0 e1 e2 e3 e4 e5 e6 e7 g0 g1 g2 g3 g4 g5 g6 g7; omega)
  · clear t0 t1 t2 t3 t4 e0 e1 e2 e3 e4 e5 e6 e7
    omega
theorem fold4 {r0 r1 r2 r3 p0 p1 p2 p3 : Nat} (h0 : p0 ≤ 8) (h1 : p1 ≤ 8) (h2 : p2 ≤ 8) (h3 : p3 ≤ 8)
    (e0 : r0 = 256 * r1 + p0) (e1 : r1 = 256 * r2 + p1) (e2 : r2 = 256 * r3 + p2) (e3 : r3 = 256 * 0 + p3) :
    r0 / 256 = r1 ∧ (r0 + r1) / 65536 = r2 + r3 ∧ (r0 + r1 + (r2 + r3)) % 64 = p0 + p1 + (p2 + p3) ∧ r0 + r1 + (r2 + r3) < 2 ^ 31 := by
  have t0 := ad_4 e0 e1 e2 e3
  have g3 : r3 ≤ 8 := by rw [e3]; omega
  have g2 : r2 ≤ 2056 := up_1 e2 h2 g3
  have g1 : r1 ≤ 526344 := up_1 e1 h1 g2
  have g0 : r0 ≤ 134744072 := up_1 e0 h0 g1
  refine ⟨dv_1 e0 h0, dv_2 (ad_2 e0 e1) (ad_2 e1 e2) (by omega) (by omega), ?_, ?_⟩
  · rw [t0, show 256 * (r1 + r2 + (r3 + 0)) + (p0 + p1 + (p2 + p3)) = 64 * (4 * (r1 + r2 + (r3 + 0))) + (p0 + p1 + (p2 + p3)) by clear t0 e0 e1 e2 e3 g0 g1 g2 g3; omega, Nat.mul_add_mod]
    exact Nat.mod_eq_of_lt (by clear t0 e0 e1 e2 e3 g0 g1 g2 g3; omega)
  · clear t0 e0 e1 e2 e3
    omega
theorem and_127 (x : Nat) : x &&& 127 = x % 128 := Nat.and_two_pow_sub_one_eq_mod x 7
theorem and_63 (x : Nat) : x &&& 63 = x % 64 := Nat.and_two_pow_sub_one_eq_mod x 6
def uS (x : Int64) (y : Int32) : Int64 := (x.toUInt64 >>> (y.toInt64.toUInt64 &&& Int64.toUInt64 63)).toInt64
def uT (x y : Int32) : Int32 := (x.toUInt32 >>> (y.toUInt32 &&& Int32.toUInt32 31)).toInt32
theorem un_uS (x : Int64) {n : Nat} (hn : n < 64) : un (uS x (nI n)) = un x / 2 ^ n := un_shr x hn
theorem um_uT (x : Int32) {n : Nat} (hn : n < 32) : um (uT x (nI n)) = um x / 2 ^ n := um_shr x hn
theorem un_k1 : un 6148914691236517205 = mkB 85 8 := by decide +kernel
theorem un_k2 : un 3689348814741910323 = mkB 51 8 := by decide +kernel
theorem un_k3 : un 1085102592571150095 = mkB 15 8 := by decide +kernel
theorem um_k1 : um 1431655765 = mkB 85 4 := by decide +kernel
theorem um_k2 : um 858993459 = mkB 51 4 := by decide +kernel
theorem um_k3 : um 252645135 = mkB 15 4 := by decide +kernel
theorem um_trunc (x : Int64) : um x.toInt32 = un x % 2 ^ 32 := by
  show (x.toBitVec.signExtend 32).toNat = _
  rw [BitVec.signExtend_eq_setWidth_of_le _ (by decide), BitVec.toNat_setWidth]; rfl
theorem bc_L {s i1 i2 i3 i4 i5 i6 : Int64} (q1 : i1 = s - (uS s (nI 1) &&& 6148914691236517205)) (q2 : i2 = (i1 &&& 3689348814741910323) + (uS i1 (nI 2) &&& 3689348814741910323)) (q3 : i3 = (i2 + uS i2 (nI 4)) &&& 1085102592571150095) (q4 : i4 = i3 + uS i3 (nI 8)) (q5 : i5 = i4 + uS i4 (nI 16)) (q6 : i6 = i5 + uS i5 (nI 32)) : i6.toInt32 &&& 127 = ons s := by
  have u1 : un i1 = sw1 8 (un s) := by
    have hy : un (uS s (nI 1) &&& 6148914691236517205) = (un s / 2 &&& mkB 85 8) := by rw [un_and, un_uS s (by decide), un_k1]
    have hle : (un s / 2 &&& mkB 85 8) ≤ un s / 2 := Nat.and_le_left
    rw [q1, un_sub _ _ (by omega), hy]; rfl
  have m2 : mkB 51 8 = 3689348814741910323 := by decide +kernel
  have u2 : un i2 = sw2 8 (un i1) ∧ un i2 ≤ 7378697629483820646 := by
    have h1 : (un i1 &&& mkB 51 8) ≤ mkB 51 8 := Nat.and_le_right
    have h2 : (un i1 / 4 &&& mkB 51 8) ≤ mkB 51 8 := Nat.and_le_right
    have h3 : (un i1 / 2 ^ 2 &&& mkB 51 8) ≤ mkB 51 8 := Nat.and_le_right
    have : un i2 = sw2 8 (un i1) := by
      rw [q2, un_add, un_and, un_and, un_uS i1 (by decide), un_k2]
      exact Nat.mod_eq_of_lt (by omega)
    refine ⟨this, ?_⟩
    rw [this]; unfold sw2; omega
  have u3 : un i3 = pcs 8 (un s) := by
    rw [← sw_pcs 8 (un s) (un_lt s), ← u1, ← u2.1, q3, un_and, un_add, un_uS i2 (by decide), un_k3]
    rw [Nat.mod_eq_of_lt (show un i2 + un i2 / 2 ^ 4 < 2 ^ 64 by omega)]; rfl
  have ct : ctB (bl s) 64 = ctB (fun i => (un s).testBit i) 64 := rfl
  rw [ons_ct, ct, ct_byte _ 56, ct_byte _ 48, ct_byte _ 40, ct_byte _ 32, ct_byte _ 24, ct_byte _ 16, ct_byte _ 8, ct_byte _ 0]
  clear u1 u2 m2
  have e0 : pcs 8 (un s) = 256 * pcs 7 (un s / 256) + pcB (un s % 256) := rfl
  have e1 : pcs 7 (un s / 256) = 256 * pcs 6 (un s / 256 / 256) + pcB (un s / 256 % 256) := rfl
  have e2 : pcs 6 (un s / 256 / 256) = 256 * pcs 5 (un s / 256 / 256 / 256) + pcB (un s / 256 / 256 % 256) := rfl
  have e3 : pcs 5 (un s / 256 / 256 / 256) = 256 * pcs 4 (un s / 256 / 256 / 256 / 256) + pcB (un s / 256 / 256 / 256 % 256) := rfl
  have e4 : pcs 4 (un s / 256 / 256 / 256 / 256) = 256 * pcs 3 (un s / 256 / 256 / 256 / 256 / 256) + pcB (un s / 256 / 256 / 256 / 256 % 256) := rfl
  have e5 : pcs 3 (un s / 256 / 256 / 256 / 256 / 256) = 256 * pcs 2 (un s / 256 / 256 / 256 / 256 / 256 / 256) + pcB (un s / 256 / 256 / 256 / 256 / 256 % 256) := rfl
  have e6 : pcs 2 (un s / 256 / 256 / 256 / 256 / 256 / 256) = 256 * pcs 1 (un s / 256 / 256 / 256 / 256 / 256 / 256 / 256) + pcB (un s / 256 / 256 / 256 / 256 / 256 / 256 % 256) := rfl
  have e7 : pcs 1 (un s / 256 / 256 / 256 / 256 / 256 / 256 / 256) = 256 * pcs 0 (un s / 256 / 256 / 256 / 256 / 256 / 256 / 256 / 256) + pcB (un s / 256 / 256 / 256 / 256 / 256 / 256 / 256 % 256) := rfl
  rw [show pcs 0 (un s / 256 / 256 / 256 / 256 / 256 / 256 / 256 / 256) = 0 from rfl] at e7
  have g0 := pcB_8 (un s % 256)
  have g1 := pcB_8 (un s / 256 % 256)
  have g2 := pcB_8 (un s / 256 / 256 % 256)
  have g3 := pcB_8 (un s / 256 / 256 / 256 % 256)
  have g4 := pcB_8 (un s / 256 / 256 / 256 / 256 % 256)
  have g5 := pcB_8 (un s / 256 / 256 / 256 / 256 / 256 % 256)
  have g6 := pcB_8 (un s / 256 / 256 / 256 / 256 / 256 / 256 % 256)
  have g7 := pcB_8 (un s / 256 / 256 / 256 / 256 / 256 / 256 / 256 % 256)
  generalize pcs 8 (un s) = r0 at *
  generalize pcs 7 (un s / 256) = r1 at *
  generalize pcs 6 (un s / 256 / 256) = r2 at *
  generalize pcs 5 (un s / 256 / 256 / 256) = r3 at *
  generalize pcs 4 (un s / 256 / 256 / 256 / 256) = r4 at *
  generalize pcs 3 (un s / 256 / 256 / 256 / 256 / 256) = r5 at *
  generalize pcs 2 (un s / 256 / 256 / 256 / 256 / 256 / 256) = r6 at *
  generalize pcs 1 (un s / 256 / 256 / 256 / 256 / 256 / 256 / 256) = r7 at *
  generalize pcB (un s % 256) = p0 at *
  generalize pcB (un s / 256 % 256) = p1 at *
  generalize pcB (un s / 256 / 256 % 256) = p2 at *
  generalize pcB (un s / 256 / 256 / 256 % 256) = p3 at *
  generalize pcB (un s / 256 / 256 / 256 / 256 % 256) = p4 at *
  generalize pcB (un s / 256 / 256 / 256 / 256 / 256 % 256) = p5 at *
  generalize pcB (un s / 256 / 256 / 256 / 256 / 256 / 256 % 256) = p6 at *
  generalize pcB (un s / 256 / 256 / 256 / 256 / 256 / 256 / 256 % 256) = p7 at *
  obtain ⟨c1, c2, c3, c4, c5⟩ := fold8 g0 g1 g2 g3 g4 g5 g6 g7 e0 e1 e2 e3 e4 e5 e6 e7
  clear e0 e1 e2 e3 e4 e5 e6 e7
  have u4 : un i4 = r0 + r1 := by
    rw [q4, un_add, un_uS i3 (by decide), u3, show (2 : Nat) ^ 8 = 256 from rfl, c1]; exact Nat.mod_eq_of_lt (by omega)
  have u5 : un i5 = r0 + r1 + (r2 + r3) := by
    rw [q5, un_add, un_uS i4 (by decide), u4, show (2 : Nat) ^ 16 = 65536 from rfl, c2]; exact Nat.mod_eq_of_lt (by omega)
  have u6 : un i6 = r0 + r1 + (r2 + r3) + (r4 + r5 + (r6 + r7)) := by
    rw [q6, un_add, un_uS i5 (by decide), u5, show (2 : Nat) ^ 32 = 4294967296 from rfl, c3]; exact Nat.mod_eq_of_lt (by omega)
  clear u3 u4 u5 c1 c2 c3 q1 q2 q3 q4 q5 q6
  have hsum : p0 + (p1 + (p2 + (p3 + (p4 + (p5 + (p6 + (p7 + 0))))))) = p0 + p1 + (p2 + p3) + (p4 + p5 + (p6 + p7)) := by clear c4 c5 u6; omega
  apply um_inj
  show um (i6.toInt32 &&& 127) = um (nI (p0 + (p1 + (p2 + (p3 + (p4 + (p5 + (p6 + (p7 + 0)))))))))
  rw [um_and, show um 127 = 127 from rfl, and_127, um_trunc, um_nI (by omega), u6, hsum, ← c4]
  omega
theorem bc_I {s i1 i2 i3 i4 i5 : Int32} (hs : 0 ≤ s) (q1 : i1 = s - (uT s (nI 1) &&& 1431655765)) (q2 : i2 = (i1 &&& 858993459) + (uT i1 (nI 2) &&& 858993459)) (q3 : i3 = (i2 + uT i2 (nI 4)) &&& 252645135) (q4 : i4 = i3 + uT i3 (nI 8)) (q5 : i5 = i4 + uT i4 (nI 16)) : i5 &&& 63 = ons s.toInt64 := by
  have u1 : um i1 = sw1 4 (um s) := by
    have hy : um (uT s (nI 1) &&& 1431655765) = (um s / 2 &&& mkB 85 4) := by rw [um_and, um_uT s (by decide), um_k1]
    have hle : (um s / 2 &&& mkB 85 4) ≤ um s / 2 := Nat.and_le_left
    rw [q1, um_sub _ _ (by omega), hy]; rfl
  have m2 : mkB 51 4 = 858993459 := by decide +kernel
  have u2 : um i2 = sw2 4 (um i1) ∧ um i2 ≤ 1717986918 := by
    have h1 : (um i1 &&& mkB 51 4) ≤ mkB 51 4 := Nat.and_le_right
    have h2 : (um i1 / 4 &&& mkB 51 4) ≤ mkB 51 4 := Nat.and_le_right
    have h3 : (um i1 / 2 ^ 2 &&& mkB 51 4) ≤ mkB 51 4 := Nat.and_le_right
    have : um i2 = sw2 4 (um i1) := by
      rw [q2, um_add, um_and, um_and, um_uT i1 (by decide), um_k2]
      exact Nat.mod_eq_of_lt (by omega)
    refine ⟨this, ?_⟩
    rw [this]; unfold sw2; omega
  have u3 : um i3 = pcs 4 (um s) := by
    rw [← sw_pcs 4 (um s) (um_lt s), ← u1, ← u2.1, q3, um_and, um_add, um_uT i2 (by decide), um_k3]
    rw [Nat.mod_eq_of_lt (show um i2 + um i2 / 2 ^ 4 < 2 ^ 32 by omega)]; rfl
  have ct : ctB (bl s.toInt64) 64 = ctB (fun i => (um s).testBit i) 32 := by
    rw [show 64 = 32 + 32 from rfl, ctB_add]
    have c1 : ctB (bl s.toInt64) 32 = ctB (fun i => (um s).testBit i) 32 := ctB_cong 32 (fun i hi => by rw [bl_ext s (by omega), if_pos hi]; rfl)
    have c2 : ctB (fun i => bl s.toInt64 (32 + i)) 32 = ctB (fun _ => false) 32 := ctB_cong 32 (fun i hi => by rw [bl_ext s (by omega), if_neg (by omega)]; exact bt_31 hs)
    rw [c1, c2]; rfl
  rw [ons_ct, ct, ct_byte _ 24, ct_byte _ 16, ct_byte _ 8, ct_byte _ 0]
  clear u1 u2 m2 ct
  have e0 : pcs 4 (um s) = 256 * pcs 3 (um s / 256) + pcB (um s % 256) := rfl
  have e1 : pcs 3 (um s / 256) = 256 * pcs 2 (um s / 256 / 256) + pcB (um s / 256 % 256) := rfl
  have e2 : pcs 2 (um s / 256 / 256) = 256 * pcs 1 (um s / 256 / 256 / 256) + pcB (um s / 256 / 256 % 256) := rfl
  have e3 : pcs 1 (um s / 256 / 256 / 256) = 256 * pcs 0 (um s / 256 / 256 / 256 / 256) + pcB (um s / 256 / 256 / 256 % 256) := rfl
  rw [show pcs 0 (um s / 256 / 256 / 256 / 256) = 0 from rfl] at e3
  have g0 := pcB_8 (um s % 256)
  have g1 := pcB_8 (um s / 256 % 256)
  have g2 := pcB_8 (um s / 256 / 256 % 256)
  have g3 := pcB_8 (um s / 256 / 256 / 256 % 256)
  generalize pcs 4 (um s) = r0 at *
  generalize pcs 3 (um s / 256) = r1 at *
  generalize pcs 2 (um s / 256 / 256) = r2 at *
  generalize pcs 1 (um s / 256 / 256 / 256) = r3 at *
  generalize pcB (um s % 256) = p0 at *
  generalize pcB (um s / 256 % 256) = p1 at *
  generalize pcB (um s / 256 / 256 % 256) = p2 at *
  generalize pcB (um s / 256 / 256 / 256 % 256) = p3 at *
  obtain ⟨c1, c2, c4, c5⟩ := fold4 g0 g1 g2 g3 e0 e1 e2 e3
  clear e0 e1 e2 e3
  have u4 : um i4 = r0 + r1 := by
    rw [q4, um_add, um_uT i3 (by decide), u3, show (2 : Nat) ^ 8 = 256 from rfl, c1]; exact Nat.mod_eq_of_lt (by omega)
  have u5 : um i5 = r0 + r1 + (r2 + r3) := by
    rw [q5, um_add, um_uT i4 (by decide), u4, show (2 : Nat) ^ 16 = 65536 from rfl, c2]; exact Nat.mod_eq_of_lt (by omega)
  clear u3 u4 c1 c2 q1 q2 q3 q4 q5
  have hsum : p0 + (p1 + (p2 + (p3 + 0))) = p0 + p1 + (p2 + p3) := by clear c4 c5 u5; omega
  apply um_inj
  show um (i5 &&& 63) = um (nI (p0 + (p1 + (p2 + (p3 + 0)))))
  rw [um_and, show um 63 = 63 from rfl, and_63, um_nI (by omega), u5, hsum, ← c4]
section J2
variable {l : Launch} {w : WD} {d : Nat} {h : AH} {Q : Option AV → AH → Prop}
theorem j_bitCountL {s : Int64} (q : Q (some (vi (ons s))) h) : Con l w true d HJ13_bitCount_95d88 [vl s] h 0 0 Q := by
  refine Con.of ok_J13_bitCount_95d88 (nones := []) rfl (by simp) ?_
  refine go ok_J13_bitCount_95d88 ?_
  exact Qv q (bc_L rfl rfl rfl rfl rfl rfl).symm
theorem j_bitCountI {s : Int32} (hs : 0 ≤ s) (q : Q (some (vi (ons s.toInt64))) h) : Con l w true d HJ6_bitCount_0f7a4 [vi s] h 0 0 Q := by
  refine Con.of ok_J6_bitCount_0f7a4 (nones := []) rfl (by simp) ?_
  refine go ok_J6_bitCount_0f7a4 ?_
  exact Qv q (bc_I hs rfl rfl rfl rfl rfl).symm
end J2

