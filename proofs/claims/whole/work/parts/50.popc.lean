/-! B: COUNTS OF BITS, of 32 and of 64 -/
theorem b8_bit {H L : Nat} (h : L < 256) (j : Nat) : (256 * H + L).testBit j = if j < 8 then L.testBit j else H.testBit (j - 8) := Nat.testBit_two_pow_mul_add (i := 8) H h j
theorem land_split {H L M m : Nat} (hL : L < 256) (hm : m < 256) : (256 * H + L) &&& (256 * M + m) = 256 * (H &&& M) + (L &&& m) := by
  have h3 : L &&& m < 256 := Nat.lt_of_le_of_lt Nat.and_le_left hL
  refine Nat.eq_of_testBit_eq fun j => ?_
  rw [Nat.testBit_and, b8_bit hL, b8_bit hm, b8_bit h3, Nat.testBit_and, Nat.testBit_and]
  split <;> rfl
def bmk (m : Nat) : Nat → Nat
  | 0 => 0
  | k + 1 => 256 * bmk m k + m
def bf1 (k x : Nat) : Nat := x - ((x / 2) &&& bmk 85 k)
def bf2 (k v : Nat) : Nat := (v &&& bmk 51 k) + ((v / 4) &&& bmk 51 k)
def bf3 (k v : Nat) : Nat := (v + v / 16) &&& bmk 15 k
theorem bt1 : ∀ L, L < 256 → ∀ h, h < 2 → (128 * h + L / 2) &&& 85 = (L / 2) &&& 85 := by decide +kernel
theorem bt2 : ∀ L, L < 256 → ∀ h, h < 4 → (64 * h + L / 4) &&& 51 = (L / 4) &&& 51 := by decide +kernel
def bsA (L : Nat) : Nat := L - ((L / 2) &&& 85)
def bsB (L : Nat) : Nat := (L &&& 51) + ((L / 4) &&& 51)
theorem bt3 : ∀ L, L < 256 → bsB (bsA L) < 256 ∧ bsB (bsA L) % 16 ≤ 4 ∧ bsB (bsA L) / 16 ≤ 4 ∧ bsB (bsA L) % 16 + bsB (bsA L) / 16 = pc L 8 := by decide +kernel
theorem bf1_s {k H L : Nat} (hL : L < 256) : bf1 (k + 1) (256 * H + L) = 256 * bf1 k H + bsA L := by
  have e : (256 * H + L) / 2 = 256 * (H / 2) + (128 * (H % 2) + L / 2) := by omega
  unfold bf1 bsA
  rw [e, bmk, land_split (by omega) (by decide), bt1 L hL _ (by omega)]
  have h1 : H / 2 &&& bmk 85 k ≤ H / 2 := Nat.and_le_left
  have h2 : L / 2 &&& 85 ≤ L / 2 := Nat.and_le_left
  omega
theorem bf2_s {k H L : Nat} (hL : L < 256) : bf2 (k + 1) (256 * H + L) = 256 * bf2 k H + bsB L := by
  have e : (256 * H + L) / 4 = 256 * (H / 4) + (64 * (H % 4) + L / 4) := by omega
  unfold bf2 bsB
  rw [e, bmk, land_split (by omega) (by decide), land_split (by omega) (by decide), bt2 L hL _ (by omega)]
  omega
theorem bf3_s {k H L : Nat} (hL : L % 16 ≤ 4) (hL2 : L / 16 ≤ 4) (hH : H % 16 ≤ 4) : bf3 (k + 1) (256 * H + L) = 256 * bf3 k H + (L % 16 + L / 16) := by
  have e : 256 * H + L + (256 * H + L) / 16 = 256 * (H + H / 16) + (L + (16 * (H % 16) + L / 16)) := by omega
  unfold bf3
  rw [e, bmk, land_split (by omega) (by decide), show (15 : Nat) = 2 ^ 4 - 1 from rfl, Nat.and_two_pow_sub_one_eq_mod]
  omega
def bP : Nat → Nat → Nat
  | 0, _ => 0
  | k + 1, x => 256 * bP k (x / 256) + pc (x % 256) 8
def bS : Nat → Nat → Nat
  | 0, _ => 0
  | k + 1, x => pc (x % 256) 8 + bS k (x / 256)
theorem bf_all : ∀ k x, x < 256 ^ k → bf3 k (bf2 k (bf1 k x)) = bP k x ∧ bf2 k (bf1 k x) % 16 ≤ 4
  | 0, x, h => by
    have : x = 0 := by rw [Nat.pow_zero] at h; omega
    subst this
    exact ⟨rfl, by decide⟩
  | k + 1, x, h => by
    have hx : x / 256 < 256 ^ k := by rw [Nat.pow_succ] at h; omega
    obtain ⟨i1, i2⟩ := bf_all k (x / 256) hx
    have hL : x % 256 < 256 := Nat.mod_lt _ (by decide)
    obtain ⟨t1, t2, t3, t4⟩ := bt3 (x % 256) hL
    have sa : bsA (x % 256) < 256 := by unfold bsA; omega
    have e : bf2 (k + 1) (bf1 (k + 1) x) = 256 * bf2 k (bf1 k (x / 256)) + bsB (bsA (x % 256)) := by
      have ex : x = 256 * (x / 256) + x % 256 := by omega
      have e1 := bf1_s (k := k) (H := x / 256) hL
      rw [← ex] at e1
      rw [e1, bf2_s sa]
    refine ⟨?_, by rw [e]; omega⟩
    rw [e, bf3_s t2 t3 i2, i1, t4, bP]
theorem pc_split (x k : Nat) : pc x (8 + k) = pc (x % 256) 8 + pc (x / 256) k := by
  unfold pc
  rw [fb_ct_split]
  congr 1
  · refine fb_ct_cong fun i hi => ?_
    rw [show (256 : Nat) = 2 ^ 8 from rfl, Nat.testBit_mod_two_pow, decide_eq_true hi, Bool.true_and]
  · refine fb_ct_cong fun i _ => ?_
    rw [show (256 : Nat) = 2 ^ 8 from rfl, Nat.testBit_div_two_pow, Nat.add_comm]
theorem bS_pc : ∀ k x, bS k x = pc x (8 * k)
  | 0, x => rfl
  | k + 1, x => by rw [bS, bS_pc k, Nat.mul_succ, Nat.add_comm (8 * k) 8, pc_split]
theorem pc_le (x k : Nat) : pc x k ≤ k := fb_ct_le _ _
/-- the bytes' sum at 64 -/
theorem b64 (x : Nat) : bP 8 x < 2 ^ 62 ∧ bP 8 x + bP 8 x / 256 < 2 ^ 62 ∧ (bP 8 x + bP 8 x / 256) + (bP 8 x + bP 8 x / 256) / 65536 < 2 ^ 62 ∧ (((bP 8 x + bP 8 x / 256) + (bP 8 x + bP 8 x / 256) / 65536) + ((bP 8 x + bP 8 x / 256) + (bP 8 x + bP 8 x / 256) / 65536) / 4294967296) % 128 = pc x 64 := by
  rw [← bS_pc 8 x]
  have h0 := pc_le (x % 256) 8
  have h1 := pc_le (x / 256 % 256) 8
  have h2 := pc_le (x / 256 / 256 % 256) 8
  have h3 := pc_le (x / 256 / 256 / 256 % 256) 8
  have h4 := pc_le (x / 256 / 256 / 256 / 256 % 256) 8
  have h5 := pc_le (x / 256 / 256 / 256 / 256 / 256 % 256) 8
  have h6 := pc_le (x / 256 / 256 / 256 / 256 / 256 / 256 % 256) 8
  have h7 := pc_le (x / 256 / 256 / 256 / 256 / 256 / 256 / 256 % 256) 8
  simp only [bP, bS]
  generalize pc (x % 256) 8 = b0 at *
  generalize pc (x / 256 % 256) 8 = b1 at *
  generalize pc (x / 256 / 256 % 256) 8 = b2 at *
  generalize pc (x / 256 / 256 / 256 % 256) 8 = b3 at *
  generalize pc (x / 256 / 256 / 256 / 256 % 256) 8 = b4 at *
  generalize pc (x / 256 / 256 / 256 / 256 / 256 % 256) 8 = b5 at *
  generalize pc (x / 256 / 256 / 256 / 256 / 256 / 256 % 256) 8 = b6 at *
  generalize pc (x / 256 / 256 / 256 / 256 / 256 / 256 / 256 % 256) 8 = b7 at *
  have h64 : ∀ y : Nat, y / 65536 = y / 256 / 256 := fun y => by rw [Nat.div_div_eq_div_mul]
  have h32 : ∀ y : Nat, y / 4294967296 = y / 256 / 256 / 256 / 256 := fun y => by rw [Nat.div_div_eq_div_mul, Nat.div_div_eq_div_mul, Nat.div_div_eq_div_mul]
  have dv : ∀ A B : Nat, B < 256 → (256 * A + B) / 256 = A := fun A B hB => by omega
  rw [Nat.mul_zero, Nat.zero_add]
  generalize e6 : 256 * b7 + b6 = U6
  generalize e5 : 256 * U6 + b5 = U5
  generalize e4 : 256 * U5 + b4 = U4
  generalize e3 : 256 * U4 + b3 = U3
  generalize e2 : 256 * U3 + b2 = U2
  generalize e1 : 256 * U2 + b1 = U1
  generalize e0 : 256 * U1 + b0 = U0
  have l6 : U6 < 4096 := by omega
  have l5 : U5 < 4096 * 256 := by omega
  have l4 : U4 < 4096 * 256 * 256 := by omega
  have l3 : U3 < 4096 * 256 * 256 * 256 := by omega
  have l2 : U2 < 4096 * 256 * 256 * 256 * 256 := by omega
  have l1 : U1 < 4096 * 256 * 256 * 256 * 256 * 256 := by omega
  have l0 : U0 < 4096 * 256 * 256 * 256 * 256 * 256 * 256 := by omega
  have d0 : U0 / 256 = U1 := by rw [← e0]; exact dv _ _ (by omega)
  rw [d0]
  have v0 : U0 + U1 = 256 * (U1 + U2) + (b0 + b1) := by omega
  have v1 : U1 + U2 = 256 * (U2 + U3) + (b1 + b2) := by omega
  have v2 : U2 + U3 = 256 * (U3 + U4) + (b2 + b3) := by omega
  have v3 : U3 + U4 = 256 * (U4 + U5) + (b3 + b4) := by omega
  have v4 : U4 + U5 = 256 * (U5 + U6) + (b4 + b5) := by omega
  have v5 : U5 + U6 = 256 * (U6 + b7) + (b5 + b6) := by omega
  have v6 : U6 + b7 = 256 * b7 + (b6 + b7) := by omega
  have d1 : (U0 + U1) / 65536 = U2 + U3 := by
    rw [h64, v0, dv _ _ (by omega), v1, dv _ _ (by omega)]
  rw [d1]
  have w0 : U0 + U1 + (U2 + U3) = 256 * (U1 + U2 + (U3 + U4)) + (b0 + b1 + b2 + b3) := by omega
  have w1 : U1 + U2 + (U3 + U4) = 256 * (U2 + U3 + (U4 + U5)) + (b1 + b2 + b3 + b4) := by omega
  have w2 : U2 + U3 + (U4 + U5) = 256 * (U3 + U4 + (U5 + U6)) + (b2 + b3 + b4 + b5) := by omega
  have w3 : U3 + U4 + (U5 + U6) = 256 * (U4 + U5 + (U6 + b7)) + (b3 + b4 + b5 + b6) := by omega
  have w4 : U4 + U5 + (U6 + b7) = 256 * (U5 + U6 + b7) + (b4 + b5 + b6 + b7) := by omega
  have d2 : (U0 + U1 + (U2 + U3)) / 4294967296 = U4 + U5 + (U6 + b7) := by
    rw [h32, w0, dv _ _ (by omega), w1, dv _ _ (by omega), w2, dv _ _ (by omega), w3, dv _ _ (by omega)]
  rw [d2]
  clear w1 w2 w3 d2 d1 v0 v1 v2 v3 v4 v5 v6 d0 e0 e1 e2 e3 e4 e5 e6
  refine ⟨by omega, by omega, by omega, ?_⟩
  rw [w0, w4]
  omega
theorem b32 (x : Nat) : bP 4 x < 2 ^ 30 ∧ bP 4 x + bP 4 x / 256 < 2 ^ 30 ∧ ((bP 4 x + bP 4 x / 256) + (bP 4 x + bP 4 x / 256) / 65536) % 64 = pc x 32 := by
  rw [← bS_pc 4 x]
  have h0 := pc_le (x % 256) 8
  have h1 := pc_le (x / 256 % 256) 8
  have h2 := pc_le (x / 256 / 256 % 256) 8
  have h3 := pc_le (x / 256 / 256 / 256 % 256) 8
  simp only [bP, bS]
  generalize pc (x % 256) 8 = b0 at *
  generalize pc (x / 256 % 256) 8 = b1 at *
  generalize pc (x / 256 / 256 % 256) 8 = b2 at *
  generalize pc (x / 256 / 256 / 256 % 256) 8 = b3 at *
  generalize hu : 256 * (256 * (256 * (256 * 0 + b3) + b2) + b1) + b0 = u
  have q1 : u / 256 = b1 + 256 * (b2 + 256 * b3) := by omega
  rw [q1]
  generalize hv : u + (b1 + 256 * (b2 + 256 * b3)) = v
  have q2 : v / 65536 = (b2 + b3) + 256 * b3 := by omega
  rw [q2]
  refine ⟨by omega, by omega, ?_⟩
  have q4 : v = (b0 + b1) + 256 * ((b1 + b2) + 256 * ((b2 + b3) + 256 * b3)) := by omega
  rw [q4]
  omega
theorem s63 : ∀ n, n < 64 → (((nI n).toInt64.toUInt64 &&& Int64.toUInt64 63).toBitVec % 64#64).toNat = n := by decide +kernel
theorem jlushr_n {x k : Nat} (hx : x < 2 ^ 64) (hk : k < 64) : jlushr (lN x) (nI k) = lN (x / 2 ^ k) := by
  refine Int64.toBitVec_inj.mp ?_
  show (lN x).toBitVec >>> (((nI k).toInt64.toUInt64 &&& Int64.toUInt64 63).toBitVec % 64#64) = _
  refine BitVec.eq_of_toNat_eq ?_
  have e1 : (lN x).toBitVec.toNat = x := by
    show (BitVec.ofNat 64 x).toNat = x
    rw [BitVec.toNat_ofNat, Nat.mod_eq_of_lt hx]
  have e2 : (lN (x / 2 ^ k)).toBitVec.toNat = x / 2 ^ k := by
    show (BitVec.ofNat 64 (x / 2 ^ k)).toNat = x / 2 ^ k
    rw [BitVec.toNat_ofNat, Nat.mod_eq_of_lt (Nat.lt_of_le_of_lt (Nat.div_le_self _ _) hx)]
  rw [BitVec.ushiftRight_eq', BitVec.toNat_ushiftRight, e1, e2, s63 k hk, Nat.shiftRight_eq_div_pow]
theorem Jl_bits {F x : Nat} {S : St} (hx : x < 2 ^ 64) : Jl_bitCount F S (lN x) = some (nI (pc x 64)) := by
  have m1 : (6148914691236517205 : Int64) = lN (bmk 85 8) := by decide
  have m2 : (3689348814741910323 : Int64) = lN (bmk 51 8) := by decide
  have m3 : (1085102592571150095 : Int64) = lN (bmk 15 8) := by decide
  have l1 : x / 2 &&& bmk 85 8 ≤ x := Nat.le_trans Nat.and_le_left (Nat.div_le_self _ _)
  have b1 : bf1 8 x < 2 ^ 64 := by unfold bf1; omega
  have b2' : bmk 51 8 = 3689348814741910323 := by decide
  have b2 : bf2 8 (bf1 8 x) < 2 ^ 63 := by
    have h1 : bf1 8 x &&& bmk 51 8 ≤ bmk 51 8 := Nat.and_le_right
    have h2 : bf1 8 x / 4 &&& bmk 51 8 ≤ bmk 51 8 := Nat.and_le_right
    unfold bf2
    omega
  have al := (bf_all 8 x (by omega)).1
  obtain ⟨c1, c2, c3, c4⟩ := b64 x
  unfold Jl_bitCount
  simp only [bnd_e]
  rw [show jlushr (lN x) 1 = lN (x / 2) from jlushr_n (k := 1) hx (by decide), m1, m2, m3, fb_andL, lN_sub l1]
  rw [show lN (x - (x / 2 &&& bmk 85 8)) = lN (bf1 8 x) from rfl, show jlushr (lN (bf1 8 x)) 2 = lN (bf1 8 x / 4) from jlushr_n (k := 2) b1 (by decide), fb_andL, fb_andL, lN_add]
  rw [show lN ((bf1 8 x &&& bmk 51 8) + (bf1 8 x / 4 &&& bmk 51 8)) = lN (bf2 8 (bf1 8 x)) from rfl, show jlushr (lN (bf2 8 (bf1 8 x))) 4 = lN (bf2 8 (bf1 8 x) / 16) from jlushr_n (k := 4) (by omega) (by decide), lN_add, fb_andL]
  rw [show (bf2 8 (bf1 8 x) + bf2 8 (bf1 8 x) / 16) &&& bmk 15 8 = bP 8 x from al, show jlushr (lN (bP 8 x)) 8 = lN (bP 8 x / 256) from jlushr_n (k := 8) (by omega) (by decide), lN_add]
  rw [show jlushr (lN (bP 8 x + bP 8 x / 256)) 16 = lN ((bP 8 x + bP 8 x / 256) / 65536) from jlushr_n (k := 16) (by omega) (by decide), lN_add]
  rw [show jlushr (lN (bP 8 x + bP 8 x / 256 + (bP 8 x + bP 8 x / 256) / 65536)) 32 = lN ((bP 8 x + bP 8 x / 256 + (bP 8 x + bP 8 x / 256) / 65536) / 4294967296) from jlushr_n (k := 32) (by omega) (by decide), lN_add, lN_i, show (127 : Int32) = nI (2 ^ 7 - 1) from rfl, ni_and, Nat.and_two_pow_sub_one_eq_mod, show (2 : Nat) ^ 7 = 128 from rfl, c4]
theorem s31u : ∀ n, n < 32 → (((nI n).toUInt32 &&& Int32.toUInt32 31).toBitVec % 32#32).toNat = n := by decide +kernel
theorem jushr_n {x k : Nat} (hx : x < 2 ^ 32) (hk : k < 32) : jushr (nI x) (nI k) = nI (x / 2 ^ k) := by
  refine Int32.toBitVec_inj.mp ?_
  show (nI x).toBitVec >>> (((nI k).toUInt32 &&& Int32.toUInt32 31).toBitVec % 32#32) = _
  refine BitVec.eq_of_toNat_eq ?_
  have e1 : (nI x).toBitVec.toNat = x := by
    show (BitVec.ofNat 32 x).toNat = x
    rw [BitVec.toNat_ofNat, Nat.mod_eq_of_lt hx]
  have e2 : (nI (x / 2 ^ k)).toBitVec.toNat = x / 2 ^ k := by
    show (BitVec.ofNat 32 (x / 2 ^ k)).toNat = x / 2 ^ k
    rw [BitVec.toNat_ofNat, Nat.mod_eq_of_lt (Nat.lt_of_le_of_lt (Nat.div_le_self _ _) hx)]
  rw [BitVec.ushiftRight_eq', BitVec.toNat_ushiftRight, e1, e2, s31u k hk, Nat.shiftRight_eq_div_pow]
theorem Ji_bits {F x : Nat} {S : St} (hx : x < 2 ^ 32) : Ji_bitCount F S (nI x) = some (nI (pc x 32)) := by
  have m1 : (1431655765 : Int32) = nI (bmk 85 4) := by decide
  have m2 : (858993459 : Int32) = nI (bmk 51 4) := by decide
  have m3 : (252645135 : Int32) = nI (bmk 15 4) := by decide
  have l1 : x / 2 &&& bmk 85 4 ≤ x := Nat.le_trans Nat.and_le_left (Nat.div_le_self _ _)
  have b1 : bf1 4 x < 2 ^ 32 := by unfold bf1; omega
  have b2' : bmk 51 4 = 858993459 := by decide
  have b2 : bf2 4 (bf1 4 x) < 2 ^ 31 := by
    have h1 : bf1 4 x &&& bmk 51 4 ≤ bmk 51 4 := Nat.and_le_right
    have h2 : bf1 4 x / 4 &&& bmk 51 4 ≤ bmk 51 4 := Nat.and_le_right
    unfold bf2
    omega
  have al := (bf_all 4 x (by omega)).1
  obtain ⟨c1, c2, c3⟩ := b32 x
  unfold Ji_bitCount
  simp only [bnd_e]
  rw [show jushr (nI x) 1 = nI (x / 2) from jushr_n (k := 1) hx (by decide), m1, m2, m3, ni_and, pk_sub l1]
  rw [show nI (x - (x / 2 &&& bmk 85 4)) = nI (bf1 4 x) from rfl, show jushr (nI (bf1 4 x)) 2 = nI (bf1 4 x / 4) from jushr_n (k := 2) b1 (by decide), ni_and, ni_and, nI_add]
  rw [show nI ((bf1 4 x &&& bmk 51 4) + (bf1 4 x / 4 &&& bmk 51 4)) = nI (bf2 4 (bf1 4 x)) from rfl, show jushr (nI (bf2 4 (bf1 4 x))) 4 = nI (bf2 4 (bf1 4 x) / 16) from jushr_n (k := 4) (by omega) (by decide), nI_add, ni_and]
  rw [show (bf2 4 (bf1 4 x) + bf2 4 (bf1 4 x) / 16) &&& bmk 15 4 = bP 4 x from al, show jushr (nI (bP 4 x)) 8 = nI (bP 4 x / 256) from jushr_n (k := 8) (by omega) (by decide), nI_add]
  rw [show jushr (nI (bP 4 x + bP 4 x / 256)) 16 = nI ((bP 4 x + bP 4 x / 256) / 65536) from jushr_n (k := 16) (by omega) (by decide), nI_add, show (63 : Int32) = nI (2 ^ 6 - 1) from rfl, ni_and, Nat.and_two_pow_sub_one_eq_mod, show (2 : Nat) ^ 6 = 64 from rfl, c3]
