section
/-! pure layer C: bits -/
theorem qcmp {x y : Int64} : lg_cmp x y = 0 ↔ x = y := by
  have h1 := lg_cmp_le x y
  have h2 := lg_cmp_ge x y
  constructor
  · intro h
    rw [h] at h1 h2
    have a : x ≤ y := h1.mp (by decide)
    have b : y ≤ x := h2.mp (by decide)
    exact Int64.le_antisymm a b
  · rintro rfl
    unfold lg_cmp
    rw [if_neg (Int64.lt_irrefl), if_pos rfl]
def bL (x : Int64) (k : Nat) : Bool := x.toBitVec.getLsbD k
def bI (x : Int32) (k : Nat) : Bool := x.toBitVec.getLsbD k
abbrev mkL (k : Nat) : Int64 := 1 <<< ((nI k).toInt64 &&& 63)
theorem mkL_bv : ∀ k, k < 64 → ((1 : Int64) <<< ((nI k).toInt64 &&& 63)).toBitVec = BitVec.twoPow 64 k := by decide +kernel
theorem tp64 : ∀ k, k < 64 → BitVec.twoPow 64 k ≠ 0#64 := by decide +kernel
theorem bL_and {x : Int64} {k : Nat} (hk : k < 64) : lg_cmp (x &&& mkL k) 0 = 0 ↔ bL x k = false := by
  rw [qcmp, ← Int64.toBitVec_inj, Int64.toBitVec_and, mkL_bv k hk, BitVec.and_twoPow]
  unfold bL
  show (if x.toBitVec.getLsbD k = true then BitVec.twoPow 64 k else 0#64) = 0#64 ↔ _
  cases x.toBitVec.getLsbD k
  · simp
  · simp only [if_true, reduceCtorEq, iff_false]
    exact tp64 k hk
theorem bL_or (x y : Int64) (j : Nat) : bL (x ||| y) j = (bL x j || bL y j) := by
  unfold bL
  rw [Int64.toBitVec_or, BitVec.getLsbD_or]
theorem bL_mk {k : Nat} (hk : k < 64) (j : Nat) : bL (mkL k) j = decide (j = k) := by
  unfold bL
  rw [mkL_bv k hk, BitVec.getLsbD_twoPow]
  by_cases e : j = k
  · subst e; simp [hk]
  · simp [e, Ne.symm e]
theorem bL_andn {x : Int64} {k : Nat} (hk : k < 64) {j : Nat} (hj : j < 64) : bL (x &&& (mkL k ^^^ (-1))) j = (bL x j && decide (j ≠ k)) := by
  have ha : (-1 : Int64).toBitVec = BitVec.allOnes 64 := by decide
  unfold bL
  rw [Int64.toBitVec_and, Int64.toBitVec_xor, mkL_bv k hk, ha, BitVec.getLsbD_and, BitVec.getLsbD_xor, BitVec.getLsbD_twoPow, BitVec.getLsbD_allOnes]
  by_cases e : j = k
  · subst e; simp [hk]
  · simp [e, Ne.symm e, hj]
theorem bL_0 (j : Nat) : bL 0 j = false := by
  unfold bL
  show (0#64).getLsbD j = false
  exact BitVec.getLsbD_zero
theorem bL_ext {x y : Int64} (h : ∀ j, j < 64 → bL x j = bL y j) : x = y := Int64.toBitVec_inj.mp (BitVec.eq_of_getLsbD_eq fun j hj => h j hj)
theorem bI_and (x y : Int32) (j : Nat) : bI (x &&& y) j = (bI x j && bI y j) := by
  unfold bI
  rw [Int32.toBitVec_and, BitVec.getLsbD_and]
theorem bI_not {y : Int32} {j : Nat} (hj : j < 32) : bI (y ^^^ (-1)) j = !bI y j := by
  have ha : (-1 : Int32).toBitVec = BitVec.allOnes 32 := by decide
  unfold bI
  rw [Int32.toBitVec_xor, ha, BitVec.getLsbD_xor, BitVec.getLsbD_allOnes]
  simp [hj]
theorem bI_0 (j : Nat) : bI 0 j = false := by
  unfold bI
  show (0#32).getLsbD j = false
  exact BitVec.getLsbD_zero
theorem bI_ext {x y : Int32} (h : ∀ j, j < 32 → bI x j = bI y j) : x = y := Int32.toBitVec_inj.mp (BitVec.eq_of_getLsbD_eq fun j hj => h j hj)
theorem bI_nI {n : Nat} (hn : n < 4294967296) {j : Nat} (hj : j < 32) : bI (nI n) j = n.testBit j := by
  unfold bI
  show (BitVec.ofNat 32 n).getLsbD j = _
  rw [BitVec.getLsbD_ofNat]
  simp [hj]
theorem qset : ∀ p, p < 24 → ∀ w, w < 25 → p + w ≤ 24 → (((1 : Int32) <<< (nI w &&& 31)) - 1) <<< (nI p &&& 31) = nI ((2 ^ w - 1) * 2 ^ p) := by decide +kernel
theorem bI_set {p w : Nat} (hp : p < 24) (h : p + w ≤ 24) {j : Nat} (hj : j < 32) : bI ((((1 : Int32) <<< (nI w &&& 31)) - 1) <<< (nI p &&& 31)) j = decide (p ≤ j ∧ j < p + w) := by
  have h1 : (2 ^ w - 1) * 2 ^ p < 4294967296 := by
    have a : 2 ^ w ≤ 2 ^ (24 - p) := Nat.pow_le_pow_right (by decide) (by omega)
    have b : (2 ^ w - 1) * 2 ^ p ≤ 2 ^ (24 - p) * 2 ^ p := Nat.mul_le_mul_right _ (Nat.le_trans (Nat.sub_le _ _) a)
    rw [← Nat.pow_add, show 24 - p + p = 24 by omega] at b
    exact Nat.lt_of_le_of_lt b (by decide)
  rw [qset p hp w (by omega) h, bI_nI h1 hj, Nat.testBit_mul_two_pow, Nat.testBit_two_pow_sub_one]
  by_cases e : p ≤ j
  · simp [e]; omega
  · simp [e]
/-! how many bits -/
def qrep (b : Nat) : Nat → Nat
  | 0 => 0
  | N + 1 => 256 * qrep b N + b
def qs1 (N x : Nat) : Nat := x - (x / 2 &&& qrep 85 N)
def qs2 (N x : Nat) : Nat := (x &&& qrep 51 N) + (x / 4 &&& qrep 51 N)
def qs3 (N x : Nat) : Nat := (x + x / 16) &&& qrep 15 N
def qp8 (r : Nat) : Nat := fb_ct (fun k => r.testBit k) 8
def qbs : Nat → Nat → Nat
  | 0, _ => 0
  | N + 1, x => 256 * qbs N (x / 256) + qp8 (x % 256)
def qtt : Nat → Nat → Nat
  | 0, _ => 0
  | N + 1, x => qtt N (x / 256) + qp8 (x % 256)
theorem q_nd (a c : Nat) {b d : Nat} (hb : b < 256) (hd : d < 256) : (256 * a + b) &&& (256 * c + d) = 256 * (a &&& c) + (b &&& d) := by
  have h1 := Nat.and_div_two_pow (a := 256 * a + b) (b := 256 * c + d) (n := 8)
  have h2 := Nat.and_mod_two_pow (a := 256 * a + b) (b := 256 * c + d) (n := 8)
  rw [show (256 * a + b) / 2 ^ 8 = a by omega, show (256 * c + d) / 2 ^ 8 = c by omega] at h1
  rw [show (256 * a + b) % 2 ^ 8 = b by omega, show (256 * c + d) % 2 ^ 8 = d by omega] at h2
  omega
theorem q_b1 : ∀ r, r < 256 → ∀ e, e < 2 → (128 * e + r / 2) &&& 85 = r / 2 &&& 85 := by decide +kernel
theorem q_b2 : ∀ r, r < 256 → ∀ e, e < 4 → (64 * e + r / 4) &&& 51 = r / 4 &&& 51 := by decide +kernel
theorem q_b3 : ∀ r, r < 69 → ∀ e, e < 5 → (r + 16 * e + r / 16) &&& 15 = (r + r / 16) &&& 15 := by decide +kernel
theorem q_byte : ∀ r, r < 256 → (r - (r / 2 &&& 85)) < 256 ∧ ((r - (r / 2 &&& 85)) &&& 51) + ((r - (r / 2 &&& 85)) / 4 &&& 51) < 69 ∧ (((r - (r / 2 &&& 85)) &&& 51) + ((r - (r / 2 &&& 85)) / 4 &&& 51)) % 16 < 5 ∧
    ((((r - (r / 2 &&& 85)) &&& 51) + ((r - (r / 2 &&& 85)) / 4 &&& 51)) + (((r - (r / 2 &&& 85)) &&& 51) + ((r - (r / 2 &&& 85)) / 4 &&& 51)) / 16) &&& 15 = qp8 r := by decide +kernel
theorem q_t1 (N q : Nat) {r : Nat} (hr : r < 256) : qs1 (N + 1) (256 * q + r) = 256 * qs1 N q + (r - (r / 2 &&& 85)) := by
  show (256 * q + r) - ((256 * q + r) / 2 &&& (256 * qrep 85 N + 85)) = 256 * (q - (q / 2 &&& qrep 85 N)) + (r - (r / 2 &&& 85))
  have h1 : (256 * q + r) / 2 = 256 * (q / 2) + (128 * (q % 2) + r / 2) := by omega
  rw [h1, q_nd _ _ (by omega) (by omega), q_b1 r hr (q % 2) (by omega)]
  have h2 : (q / 2 &&& qrep 85 N) ≤ q / 2 := Nat.and_le_left
  have h3 : (r / 2 &&& 85) ≤ r / 2 := Nat.and_le_left
  omega
theorem q_t2 (N q : Nat) {r : Nat} (hr : r < 256) : qs2 (N + 1) (256 * q + r) = 256 * qs2 N q + ((r &&& 51) + (r / 4 &&& 51)) := by
  show ((256 * q + r) &&& (256 * qrep 51 N + 51)) + ((256 * q + r) / 4 &&& (256 * qrep 51 N + 51)) = 256 * ((q &&& qrep 51 N) + (q / 4 &&& qrep 51 N)) + ((r &&& 51) + (r / 4 &&& 51))
  have h1 : (256 * q + r) / 4 = 256 * (q / 4) + (64 * (q % 4) + r / 4) := by omega
  rw [h1, q_nd _ _ hr (by omega), q_nd _ _ (by omega) (by omega), q_b2 r hr (q % 4) (by omega)]
  omega
theorem q_t3 (N q : Nat) {r : Nat} (hr : r < 69) (hq : q % 16 < 5) : qs3 (N + 1) (256 * q + r) = 256 * qs3 N q + ((r + r / 16) &&& 15) := by
  show ((256 * q + r) + (256 * q + r) / 16) &&& (256 * qrep 15 N + 15) = 256 * ((q + q / 16) &&& qrep 15 N) + ((r + r / 16) &&& 15)
  have h1 : (256 * q + r) + (256 * q + r) / 16 = 256 * (q + q / 16) + (r + 16 * (q % 16) + r / 16) := by omega
  rw [h1, q_nd _ _ (by omega) (by omega), q_b3 r hr (q % 16) hq]
theorem q_swar (N : Nat) : ∀ x, qs2 N (qs1 N x) % 16 < 5 ∧ qs3 N (qs2 N (qs1 N x)) = qbs N x := by
  induction N with
  | zero => exact fun x => ⟨by simp [qs2, qrep], by simp [qs3, qrep, qbs]⟩
  | succ N ih =>
    intro x
    obtain ⟨i1, i2⟩ := ih (x / 256)
    have hx : x = 256 * (x / 256) + x % 256 := by omega
    obtain ⟨b1, b2, b3, b4⟩ := q_byte (x % 256) (by omega)
    have e : qs2 (N + 1) (qs1 (N + 1) x) = 256 * qs2 N (qs1 N (x / 256)) + (((x % 256 - (x % 256 / 2 &&& 85)) &&& 51) + ((x % 256 - (x % 256 / 2 &&& 85)) / 4 &&& 51)) := by
      conv => lhs; rw [hx, q_t1 N _ (by omega), q_t2 N _ b1]
    refine ⟨by rw [e]; omega, ?_⟩
    rw [e, q_t3 N _ b2 i1, i2, b4]
    rfl
theorem q_tt (N : Nat) : ∀ x, fb_ct (fun k => x.testBit k) (8 * N) = qtt N x := by
  induction N with
  | zero => exact fun x => rfl
  | succ N ih =>
    intro x
    rw [show 8 * (N + 1) = 8 + 8 * N by omega, fb_ct_split]
    have h1 : fb_ct (fun k => x.testBit k) 8 = qp8 (x % 256) := fb_ct_cong fun k hk => by
      show x.testBit k = (x % 2 ^ 8).testBit k
      rw [Nat.testBit_mod_two_pow]; simp [hk]
    have h2 : fb_ct (fun k => x.testBit (8 + k)) (8 * N) = qtt N (x / 256) := by
      rw [← ih]
      exact fb_ct_cong fun k _ => by
        show x.testBit (8 + k) = (x / 2 ^ 8).testBit k
        rw [Nat.testBit_div_two_pow, Nat.add_comm]
    rw [h1, h2]
    show qp8 (x % 256) + qtt N (x / 256) = qtt N (x / 256) + qp8 (x % 256)
    omega
theorem qp8_le (r : Nat) : qp8 r ≤ 8 := fb_ct_le _ 8
theorem q_T1 {p0 p1 p2 p3 p4 p5 p6 p7 z : Nat} (h0 : p0 ≤ 8) (hz : z = p0 + 256 * p1 + 65536 * p2 + 16777216 * p3 + 4294967296 * p4 + 1099511627776 * p5 + 281474976710656 * p6 + 72057594037927936 * p7) : z / 256 = p1 + 256 * p2 + 65536 * p3 + 16777216 * p4 + 4294967296 * p5 + 1099511627776 * p6 + 281474976710656 * p7 := by omega
theorem q_T2 {c0 c1 c2 c3 c4 c5 c6 c7 z : Nat} (h0 : c0 ≤ 16) (h1 : c1 ≤ 16) (hz : z = c0 + 256 * c1 + 65536 * c2 + 16777216 * c3 + 4294967296 * c4 + 1099511627776 * c5 + 281474976710656 * c6 + 72057594037927936 * c7) : z / 65536 = c2 + 256 * c3 + 65536 * c4 + 16777216 * c5 + 4294967296 * c6 + 1099511627776 * c7 := by omega
theorem q_T3 {d0 d1 d2 d3 d4 d5 d6 d7 z : Nat} (h0 : d0 ≤ 32) (h1 : d1 ≤ 32) (h2 : d2 ≤ 32) (h3 : d3 ≤ 32) (hz : z = d0 + 256 * d1 + 65536 * d2 + 16777216 * d3 + 4294967296 * d4 + 1099511627776 * d5 + 281474976710656 * d6 + 72057594037927936 * d7) : z / 4294967296 = d4 + 256 * d5 + 65536 * d6 + 16777216 * d7 := by omega
theorem q_T4 {d0 d1 d2 d3 d4 d5 d6 d7 : Nat} (h0 : d0 + d4 ≤ 64) : ((d0 + 256 * d1 + 65536 * d2 + 16777216 * d3 + 4294967296 * d4 + 1099511627776 * d5 + 281474976710656 * d6 + 72057594037927936 * d7) + (d4 + 256 * d5 + 65536 * d6 + 16777216 * d7)) % 128 = d0 + d4 := by omega
theorem q_fold8 {p0 p1 p2 p3 p4 p5 p6 p7 z w1 w2 w3 : Nat} (h0 : p0 ≤ 8) (h1 : p1 ≤ 8) (h2 : p2 ≤ 8) (h3 : p3 ≤ 8) (h4 : p4 ≤ 8) (h5 : p5 ≤ 8) (h6 : p6 ≤ 8) (h7 : p7 ≤ 8)
    (hz : z = p0 + 256 * p1 + 65536 * p2 + 16777216 * p3 + 4294967296 * p4 + 1099511627776 * p5 + 281474976710656 * p6 + 72057594037927936 * p7)
    (e1 : w1 = (z + z / 256) % 18446744073709551616) (e2 : w2 = (w1 + w1 / 65536) % 18446744073709551616) (e3 : w3 = (w2 + w2 / 4294967296) % 18446744073709551616) : w3 % 128 = p0 + p1 + p2 + p3 + p4 + p5 + p6 + p7 := by
  rw [q_T1 h0 hz, hz] at e1
  have f1 : w1 = (p0 + p1) + 256 * (p1 + p2) + 65536 * (p2 + p3) + 16777216 * (p3 + p4) + 4294967296 * (p4 + p5) + 1099511627776 * (p5 + p6) + 281474976710656 * (p6 + p7) + 72057594037927936 * p7 := by
    rw [Nat.mod_eq_of_lt (by clear e1 e2 e3 hz; omega)] at e1
    rw [e1]
    clear e1 e2 e3 hz
    omega
  clear e1 hz
  rw [q_T2 (by omega) (by omega) f1, f1] at e2
  have f2 : w2 = ((p0 + p1) + (p2 + p3)) + 256 * ((p1 + p2) + (p3 + p4)) + 65536 * ((p2 + p3) + (p4 + p5)) + 16777216 * ((p3 + p4) + (p5 + p6)) + 4294967296 * ((p4 + p5) + (p6 + p7)) + 1099511627776 * ((p5 + p6) + p7) + 281474976710656 * (p6 + p7) + 72057594037927936 * p7 := by
    rw [Nat.mod_eq_of_lt (by clear e2 e3 f1; omega)] at e2
    rw [e2]
    clear e2 e3 f1
    omega
  clear e2 f1
  rw [q_T3 (by omega) (by omega) (by omega) (by omega) f2, f2] at e3
  rw [Nat.mod_eq_of_lt (by clear e3 f2; omega)] at e3
  rw [e3, q_T4 (by clear e3 f2; omega)]
  clear e3 f2
  omega
def uN (x : Int64) : Nat := x.toUInt64.toNat
theorem uN_lt (x : Int64) : uN x < 18446744073709551616 := x.toUInt64.toNat_lt
theorem uN_add (x y : Int64) : uN (x + y) = (uN x + uN y) % 18446744073709551616 := by
  show (x.toUInt64 + y.toUInt64).toNat = _
  exact UInt64.toNat_add _ _
theorem uN_and (x y : Int64) : uN (x &&& y) = uN x &&& uN y := by
  show (x.toUInt64 &&& y.toUInt64).toNat = _
  exact UInt64.toNat_and _ _
theorem uN_sub {x y : Int64} (h : uN y ≤ uN x) : uN (x - y) = uN x - uN y := by
  show (x.toUInt64 - y.toUInt64).toNat = _
  exact UInt64.toNat_sub_of_le _ _ (UInt64.le_iff_toNat_le.mpr h)
theorem uN_shr (x : Int64) (s : UInt64) : uN (x.toUInt64 >>> s).toInt64 = uN x / 2 ^ (s.toNat % 64) := by
  show (x.toUInt64 >>> s).toNat = _
  rw [UInt64.toNat_shiftRight, Nat.shiftRight_eq_div_pow]
  rfl
def bcl (x : Int64) (k : Int32) : Int64 := (x.toUInt64 >>> (k.toInt64.toUInt64 &&& Int64.toUInt64 63)).toInt64
def bc1 (x : Int64) : Int64 := x - (bcl x 1 &&& 6148914691236517205)
def bc2 (x : Int64) : Int64 := (x &&& 3689348814741910323) + (bcl x 2 &&& 3689348814741910323)
def bc3 (x : Int64) : Int64 := (x + bcl x 4) &&& 1085102592571150095
def bc4 (x : Int64) : Int64 := x + bcl x 8
def bc5 (x : Int64) : Int64 := x + bcl x 16
def bc6 (x : Int64) : Int64 := x + bcl x 32
theorem bcl_k (x : Int64) (k : Int32) {n d : Nat} (h : (k.toInt64.toUInt64 &&& Int64.toUInt64 63).toNat % 64 = n) (hd : 2 ^ n = d) : uN (bcl x k) = uN x / d := by
  unfold bcl
  rw [uN_shr, h, hd]
theorem q_bc {x : Int64} {post : Int32 → Prop} (k : post (nI (fb_ct (bL x) 64))) : wp_J13_bitCount_95d88 x post := by
  have e0 : wp_J13_bitCount_95d88 x post = post ((bc6 (bc5 (bc4 (bc3 (bc2 (bc1 x)))))).toInt32 &&& 127) := rfl
  rw [e0]
  have m1 : uN 6148914691236517205 = qrep 85 8 := by decide +kernel
  have m2 : uN 3689348814741910323 = qrep 51 8 := by decide +kernel
  have m3 : uN 1085102592571150095 = qrep 15 8 := by decide +kernel
  have hx := uN_lt x
  have e1 : uN (bc1 x) = qs1 8 (uN x) := by
    unfold bc1 qs1
    have h1 : uN (bcl x 1 &&& 6148914691236517205) = (uN x / 2 &&& qrep 85 8) := by rw [uN_and, bcl_k x 1 (n := 1) (by decide) rfl, m1]
    have h2 : (uN x / 2 &&& qrep 85 8) ≤ uN x / 2 := Nat.and_le_left
    rw [uN_sub (by rw [h1]; omega), h1]
  have e2 : uN (bc2 (bc1 x)) = qs2 8 (qs1 8 (uN x)) := by
    unfold bc2
    have h3 : ∀ a, (a &&& qrep 51 8) ≤ qrep 51 8 := fun a => Nat.and_le_right
    have h4 : qrep 51 8 = 3689348814741910323 := by decide +kernel
    rw [uN_add, uN_and, uN_and, bcl_k _ 2 (n := 2) (by decide) rfl, m2, e1]
    exact Nat.mod_eq_of_lt (by
      have := h3 (qs1 8 (uN x))
      have := h3 (qs1 8 (uN x) / 2 ^ 2)
      omega)
  obtain ⟨-, hs⟩ := q_swar 8 (uN x)
  have h5 : qs2 8 (qs1 8 (uN x)) ≤ 7378697629483820646 := by
    have h3 : ∀ a, (a &&& qrep 51 8) ≤ qrep 51 8 := fun a => Nat.and_le_right
    have h4 : qrep 51 8 = 3689348814741910323 := by decide +kernel
    unfold qs2
    have := h3 (qs1 8 (uN x))
    have := h3 (qs1 8 (uN x) / 4)
    omega
  have e3 : uN (bc3 (bc2 (bc1 x))) = qbs 8 (uN x) := by
    unfold bc3
    rw [uN_and, uN_add, bcl_k _ 4 (n := 4) (by decide) rfl, m3, e2, Nat.mod_eq_of_lt (by omega)]
    exact hs
  have e4 := uN_add (bc3 (bc2 (bc1 x))) (bcl (bc3 (bc2 (bc1 x))) 8)
  rw [bcl_k _ 8 (n := 8) (d := 256) (by decide) rfl, e3] at e4
  have e5 := uN_add (bc4 (bc3 (bc2 (bc1 x)))) (bcl (bc4 (bc3 (bc2 (bc1 x)))) 16)
  rw [bcl_k _ 16 (n := 16) (d := 65536) (by decide) rfl] at e5
  have e6 := uN_add (bc5 (bc4 (bc3 (bc2 (bc1 x))))) (bcl (bc5 (bc4 (bc3 (bc2 (bc1 x))))) 32)
  rw [bcl_k _ 32 (n := 32) (d := 4294967296) (by decide) rfl] at e6
  have hz : qbs 8 (uN x) = qp8 (uN x % 256) + 256 * qp8 (uN x / 256 % 256) + 65536 * qp8 (uN x / 256 / 256 % 256) + 16777216 * qp8 (uN x / 256 / 256 / 256 % 256) + 4294967296 * qp8 (uN x / 256 / 256 / 256 / 256 % 256) +
      1099511627776 * qp8 (uN x / 256 / 256 / 256 / 256 / 256 % 256) + 281474976710656 * qp8 (uN x / 256 / 256 / 256 / 256 / 256 / 256 % 256) + 72057594037927936 * qp8 (uN x / 256 / 256 / 256 / 256 / 256 / 256 / 256 % 256) := by
    simp only [qbs]; omega
  have e7 := q_fold8 (qp8_le _) (qp8_le _) (qp8_le _) (qp8_le _) (qp8_le _) (qp8_le _) (qp8_le _) (qp8_le _) hz e4 e5 e6
  have e8 : qtt 8 (uN x) = uN (bc6 (bc5 (bc4 (bc3 (bc2 (bc1 x)))))) % 128 := by
    refine Eq.trans ?_ e7.symm
    simp only [qtt]; omega
  have e9 := pk_and ((bc6 (bc5 (bc4 (bc3 (bc2 (bc1 x)))))).toInt32) (m := 127) 7 (by decide)
  have e10 : (bc6 (bc5 (bc4 (bc3 (bc2 (bc1 x)))))).toInt32.toBitVec.toNat = uN (bc6 (bc5 (bc4 (bc3 (bc2 (bc1 x)))))) % 2 ^ 32 := by
    rw [Int64.toBitVec_toInt32, BitVec.signExtend_eq_setWidth_of_le _ (by decide), BitVec.toNat_setWidth]
    rfl
  rw [e9, e10]
  have e11 : fb_ct (bL x) 64 = qtt 8 (uN x) := q_tt 8 (uN x)
  rw [e11, e8] at k
  rw [show uN (bc6 (bc5 (bc4 (bc3 (bc2 (bc1 x)))))) % 2 ^ 32 % 2 ^ 7 = uN (bc6 (bc5 (bc4 (bc3 (bc2 (bc1 x)))))) % 128 by omega]
  exact k
end
