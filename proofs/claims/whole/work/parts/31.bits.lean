/-! counting the bits of a long -/
def m55 : Nat → Nat
  | 0 => 0
  | k + 1 => 85 + 256 * m55 k
def m33 : Nat → Nat
  | 0 => 0
  | k + 1 => 51 + 256 * m33 k
def m0f : Nat → Nat
  | 0 => 0
  | k + 1 => 15 + 256 * m0f k
theorem and_byte {z w a b : Nat} (hz : z < 256) (hw : w < 256) : (z + 256 * a) &&& (w + 256 * b) = (z &&& w) + 256 * (a &&& b) := by
  have h1 : ((z + 256 * a) &&& (w + 256 * b)) % 2 ^ 8 = (z &&& w) := by
    rw [Nat.and_mod_two_pow, show (z + 256 * a) % 2 ^ 8 = z by omega, show (w + 256 * b) % 2 ^ 8 = w by omega]
  have h2 : ((z + 256 * a) &&& (w + 256 * b)) / 2 ^ 8 = (a &&& b) := by
    rw [Nat.and_div_two_pow, show (z + 256 * a) / 2 ^ 8 = a by omega, show (w + 256 * b) / 2 ^ 8 = b by omega]
  omega
def pA (z : Nat) : Nat := z - ((z / 2) &&& 85)
def pB (z : Nat) : Nat := (z &&& 51) + ((z / 4) &&& 51)
def pC (z : Nat) : Nat := (z % 16 + z / 16) % 16
def sA (k x : Nat) : Nat := x - ((x / 2) &&& m55 k)
def sB (k x : Nat) : Nat := (x &&& m33 k) + ((x / 4) &&& m33 k)
def sC (k x : Nat) : Nat := (x + x / 16) &&& m0f k
theorem byte_A : ∀ z, z < 256 → ∀ e, e < 2 → (z / 2 + 128 * e) &&& 85 = (z / 2) &&& 85 := by decide +kernel
theorem byte_B : ∀ z, z < 256 → ∀ e, e < 4 → (z / 4 + 64 * e) &&& 51 = (z / 4) &&& 51 := by decide +kernel
theorem byte_C : ∀ z, z < 256 → z &&& 15 = z % 16 := by decide +kernel
theorem byte_P : ∀ z, z < 256 → pA z < 256 ∧ pB (pA z) % 16 ≤ 4 ∧ pB (pA z) / 16 ≤ 4 ∧ pC (pB (pA z)) ≤ 8 := by decide +kernel
theorem sA_S {k z a : Nat} (hz : z < 256) : sA (k + 1) (z + 256 * a) = pA z + 256 * sA k a := by
  have e : (z + 256 * a) / 2 = (z / 2 + 128 * (a % 2)) + 256 * (a / 2) := by omega
  have h1 : ((z / 2) &&& 85) ≤ z / 2 := Nat.and_le_left
  have h2 : ((a / 2) &&& m55 k) ≤ a / 2 := Nat.and_le_left
  unfold sA pA
  rw [e, m55, and_byte (by omega) (by omega), byte_A z hz (a % 2) (by omega)]
  omega
theorem sB_S {k z a : Nat} (hz : z < 256) : sB (k + 1) (z + 256 * a) = pB z + 256 * sB k a := by
  have e : (z + 256 * a) / 4 = (z / 4 + 64 * (a % 4)) + 256 * (a / 4) := by omega
  unfold sB pB
  rw [e, m33, and_byte hz (by omega), and_byte (by omega) (by omega), byte_B z hz (a % 4) (by omega)]
  omega
theorem sC_S {k z a : Nat} (h1 : z % 16 ≤ 4) (h2 : z / 16 ≤ 4) (h3 : a % 16 ≤ 4) : sC (k + 1) (z + 256 * a) = pC z + 256 * sC k a := by
  have e : z + 256 * a + (z + 256 * a) / 16 = (z + z / 16 + 16 * (a % 16)) + 256 * (a + a / 16) := by omega
  unfold sC pC
  rw [e, m0f, and_byte (by omega) (by omega), byte_C _ (by omega)]
  omega
/-- a number out of its bytes -/
def ofB (f : Nat → Nat) : Nat → Nat → Nat
  | 0, _ => 0
  | k + 1, j => f j + 256 * ofB f k (j + 1)
theorem ofB_abc {f : Nat → Nat} (hf : ∀ j, f j < 256) : ∀ k j, sC k (sB k (sA k (ofB f k j))) = ofB (fun i => pC (pB (pA (f i)))) k j ∧ (sB k (sA k (ofB f k j))) % 16 ≤ 4
  | 0, j => ⟨by simp [ofB, sA, sB, sC, m0f], by simp [ofB, sA, sB, m33]⟩
  | k + 1, j => by
    obtain ⟨h1, h2⟩ := ofB_abc hf k (j + 1)
    obtain ⟨p1, p2, p3, -⟩ := byte_P (f j) (hf j)
    show sC (k + 1) (sB (k + 1) (sA (k + 1) (f j + 256 * ofB f k (j + 1)))) = pC (pB (pA (f j))) + 256 * ofB _ k (j + 1) ∧ (sB (k + 1) (sA (k + 1) (f j + 256 * ofB f k (j + 1)))) % 16 ≤ 4
    rw [sA_S (hf j), sB_S p1, sC_S p2 p3 h2, h1]
    exact ⟨rfl, by omega⟩
theorem ofB_div {x : Nat} : ∀ k j, ofB (fun i => x / 256 ^ i % 256) k j = x / 256 ^ j % 256 ^ k
  | 0, j => by simp [ofB, Nat.mod_one]
  | k + 1, j => by
    show x / 256 ^ j % 256 + 256 * ofB _ k (j + 1) = _
    rw [ofB_div k (j + 1), Nat.pow_succ 256 j, ← Nat.div_div_eq_div_mul, Nat.pow_succ, Nat.mul_comm (256 ^ k) 256, Nat.mod_mul]
/-- how many bits below k -/
def cntL (x : Nat) : Nat → Nat
  | 0 => 0
  | k + 1 => cntL x k + if x.testBit k = true then 1 else 0
theorem cntL_byte : ∀ z, z < 256 → pC (pB (pA z)) = cntL z 8 := by decide +kernel
theorem cntL_off (x j : Nat) : ∀ k, cntL x (8 * j + k) = cntL x (8 * j) + cntL (x / 256 ^ j) k
  | 0 => rfl
  | k + 1 => by
    show cntL x (8 * j + k) + (if x.testBit (8 * j + k) = true then 1 else 0) = cntL x (8 * j) + (cntL (x / 256 ^ j) k + if (x / 256 ^ j).testBit k = true then 1 else 0)
    rw [cntL_off x j k, show (256 : Nat) ^ j = 2 ^ (8 * j) by rw [Nat.pow_mul], Nat.testBit_div_two_pow, Nat.add_comm k]
    omega
theorem cntL_mod (x : Nat) : ∀ k, k ≤ 8 → cntL (x % 256) k = cntL x k
  | 0, _ => rfl
  | k + 1, h => by
    show cntL (x % 256) k + (if (x % 256).testBit k = true then 1 else 0) = cntL x k + (if x.testBit k = true then 1 else 0)
    rw [cntL_mod x k (by omega), show (256 : Nat) = 2 ^ 8 from rfl, Nat.testBit_mod_two_pow, decide_eq_true (show k < 8 by omega), Bool.true_and]
theorem cntL_8 (x j : Nat) : cntL x (8 * (j + 1)) = cntL x (8 * j) + pC (pB (pA (x / 256 ^ j % 256))) := by
  rw [cntL_byte _ (Nat.mod_lt _ (by decide)), cntL_mod _ 8 (Nat.le_refl _), ← cntL_off]
  rfl
def popN (x : Nat) : Nat :=
  let c := sC 8 (sB 8 (sA 8 x))
  let d := c + c / 256
  let e := d + d / 65536
  let f := e + e / 4294967296
  f % 128
theorem popN_eq {x : Nat} (hx : x < 2 ^ 64) : popN x = cntL x 64 := by
  have hb : x = ofB (fun i => x / 256 ^ i % 256) 8 0 := by
    rw [ofB_div 8 0, Nat.pow_zero, Nat.div_one]
    exact (Nat.mod_eq_of_lt hx).symm
  have hc : sC 8 (sB 8 (sA 8 x)) = ofB (fun i => pC (pB (pA (x / 256 ^ i % 256)))) 8 0 := by
    have h := (ofB_abc (f := fun i => x / 256 ^ i % 256) (fun j => Nat.mod_lt _ (by decide)) 8 0).1
    rw [← hb] at h
    exact h
  have hp : ∀ i, pC (pB (pA (x / 256 ^ i % 256))) ≤ 8 := fun i => (byte_P _ (Nat.mod_lt _ (by decide))).2.2.2
  have h0 := cntL_8 x 0
  have h1 := cntL_8 x 1
  have h2 := cntL_8 x 2
  have h3 := cntL_8 x 3
  have h4 := cntL_8 x 4
  have h5 := cntL_8 x 5
  have h6 := cntL_8 x 6
  have h7 := cntL_8 x 7
  have e0 : cntL x (8 * 0) = 0 := rfl
  unfold popN
  rw [hc]
  show _ = cntL x (8 * (7 + 1))
  rw [h7, show 8 * 7 = 8 * (6 + 1) from rfl, h6, show 8 * 6 = 8 * (5 + 1) from rfl, h5, show 8 * 5 = 8 * (4 + 1) from rfl, h4, show 8 * 4 = 8 * (3 + 1) from rfl, h3, show 8 * 3 = 8 * (2 + 1) from rfl, h2, show 8 * 2 = 8 * (1 + 1) from rfl, h1, show 8 * 1 = 8 * (0 + 1) from rfl, h0, e0]
  simp only [ofB, Nat.zero_add, Nat.reduceAdd]
  have q0 := hp 0
  have q1 := hp 1
  have q2 := hp 2
  have q3 := hp 3
  have q4 := hp 4
  have q5 := hp 5
  have q6 := hp 6
  have q7 := hp 7
  generalize pC (pB (pA (x / 256 ^ 0 % 256))) = c0 at *
  generalize pC (pB (pA (x / 256 ^ 1 % 256))) = c1 at *
  generalize pC (pB (pA (x / 256 ^ 2 % 256))) = c2 at *
  generalize pC (pB (pA (x / 256 ^ 3 % 256))) = c3 at *
  generalize pC (pB (pA (x / 256 ^ 4 % 256))) = c4 at *
  generalize pC (pB (pA (x / 256 ^ 5 % 256))) = c5 at *
  generalize pC (pB (pA (x / 256 ^ 6 % 256))) = c6 at *
  generalize pC (pB (pA (x / 256 ^ 7 % 256))) = c7 at *
  clear h0 h1 h2 h3 h4 h5 h6 h7 e0 hc hb hx hp
  generalize g7 : c7 + 256 * 0 = r7
  generalize g6 : c6 + 256 * r7 = r6
  generalize g5 : c5 + 256 * r6 = r5
  generalize g4 : c4 + 256 * r5 = r4
  generalize g3 : c3 + 256 * r4 = r3
  generalize g2 : c2 + 256 * r3 = r2
  generalize g1 : c1 + 256 * r2 = r1
  have k1 : (c0 + 256 * r1) / 256 = r1 := by omega
  rw [k1]
  have k2 : (c0 + 256 * r1 + r1) / 65536 = r2 + r3 := by omega
  rw [k2]
  have k3 : (c0 + 256 * r1 + r1 + (r2 + r3)) / 4294967296 = r4 + r5 + r6 + r7 := by omega
  rw [k3]
  omega
theorem lTn {n : Nat} (h : n < 2 ^ 64) : (lN n).toBitVec.toNat = n := by
  show (BitVec.ofNat 64 n).toNat = n
  rw [BitVec.toNat_ofNat]
  exact Nat.mod_eq_of_lt h
theorem lN_and {a b : Nat} (ha : a < 2 ^ 64) (hb : b < 2 ^ 64) : lN a &&& lN b = lN (a &&& b) := by
  apply Int64.toBitVec_inj.mp
  apply BitVec.eq_of_toNat_eq
  rw [Int64.toBitVec_and, BitVec.toNat_and, lTn ha, lTn hb, lTn (Nat.lt_of_le_of_lt Nat.and_le_left ha)]
theorem lN_ushr {n : Nat} (hn : n < 2 ^ 64) (s : Int32) (k : Nat) (hs : ((s.toInt64.toUInt64 &&& Int64.toUInt64 63).toBitVec % 64).toNat = k) : ((lN n).toUInt64 >>> (s.toInt64.toUInt64 &&& Int64.toUInt64 63)).toInt64 = lN (n / 2 ^ k) := by
  apply Int64.toBitVec_inj.mp
  apply BitVec.eq_of_toNat_eq
  have e : ((lN n).toUInt64 >>> (s.toInt64.toUInt64 &&& Int64.toUInt64 63)).toInt64.toBitVec = (lN n).toBitVec >>> k := by
    rw [← hs]
    exact UInt64.toBitVec_shiftRight _ _
  rw [e, BitVec.toNat_ushiftRight, Nat.shiftRight_eq_div_pow, lTn hn, lTn (Nat.lt_of_le_of_lt (Nat.div_le_self _ _) hn)]
theorem lN_of (x : Int64) : x = lN x.toBitVec.toNat := Int64.toBitVec_inj.mp (BitVec.eq_of_toNat_eq (lTn x.toBitVec.isLt).symm)
theorem popL_eq (x : Int64) : popL x = nI (cntL x.toBitVec.toNat 64) := by
  have hX := x.toBitVec.isLt
  rw [← popN_eq hX]
  conv => lhs; rw [lN_of x]
  generalize x.toBitVec.toNat = X at *
  have k55 : m55 8 = 6148914691236517205 := by decide
  have k33 : m33 8 = 3689348814741910323 := by decide
  have k0f : m0f 8 = 1085102592571150095 := by decide
  have hA1 : ((X / 2) &&& m55 8) ≤ X / 2 := Nat.and_le_left
  have hA : sA 8 X ≤ X := Nat.sub_le _ _
  have eA : lN X - (((lN X).toUInt64 >>> ((1 : Int32).toInt64.toUInt64 &&& Int64.toUInt64 63)).toInt64 &&& 6148914691236517205) = lN (sA 8 X) := by
    rw [lN_ushr hX 1 1 (by decide), show X / 2 ^ 1 = X / 2 from rfl, show (6148914691236517205 : Int64) = lN (m55 8) by rw [k55]; rfl, lN_and (by omega) (by rw [k55]; omega), lN_sub (by omega)]
    rfl
  have hB1 : ((sA 8 X) &&& m33 8) ≤ m33 8 := Nat.and_le_right
  have hB2 : ((sA 8 X / 4) &&& m33 8) ≤ m33 8 := Nat.and_le_right
  have hB : sB 8 (sA 8 X) ≤ 7378697629483820646 := by
    unfold sB
    omega
  have eB : (lN (sA 8 X) &&& 3689348814741910323) + (((lN (sA 8 X)).toUInt64 >>> ((2 : Int32).toInt64.toUInt64 &&& Int64.toUInt64 63)).toInt64 &&& 3689348814741910323) = lN (sB 8 (sA 8 X)) := by
    rw [lN_ushr (by omega) 2 2 (by decide), show (3689348814741910323 : Int64) = lN (m33 8) by rw [k33]; rfl, lN_and (by omega) (by rw [k33]; omega), lN_and (by omega) (by rw [k33]; omega), lN_add]
    rfl
  have hC : sC 8 (sB 8 (sA 8 X)) ≤ m0f 8 := Nat.and_le_right
  have eC : (lN (sB 8 (sA 8 X)) + ((lN (sB 8 (sA 8 X))).toUInt64 >>> ((4 : Int32).toInt64.toUInt64 &&& Int64.toUInt64 63)).toInt64) &&& 1085102592571150095 = lN (sC 8 (sB 8 (sA 8 X))) := by
    rw [lN_ushr (by omega) 4 4 (by decide), lN_add, show (1085102592571150095 : Int64) = lN (m0f 8) by rw [k0f]; rfl, lN_and (by omega) (by rw [k0f]; omega)]
    rfl
  unfold popL popN
  dsimp only
  rw [eA, eB, eC]
  generalize sC 8 (sB 8 (sA 8 X)) = c at *
  rw [k0f] at hC
  rw [lN_ushr (by omega) 8 8 (by decide), lN_add]
  have hd : c + c / 2 ^ 8 ≤ 1100000000000000000 := by omega
  rw [show c + c / 256 = c + c / 2 ^ 8 from rfl]
  generalize c + c / 2 ^ 8 = d at *
  rw [lN_ushr (by omega) 16 16 (by decide), lN_add, show d + d / 65536 = d + d / 2 ^ 16 from rfl]
  have he : d + d / 2 ^ 16 ≤ 1200000000000000000 := by omega
  generalize d + d / 2 ^ 16 = e at *
  rw [lN_ushr (by omega) 32 32 (by decide), lN_add, show e + e / 4294967296 = e + e / 2 ^ 32 from rfl, lN_i]
  generalize e + e / 2 ^ 32 = f
  have e2 : nI f &&& 127 = nI (f % 2 ^ 32) &&& 127 := by
    have : nI f = nI (f % 2 ^ 32) := Int32.toBitVec_inj.mp (BitVec.eq_of_toNat_eq (by
      show (BitVec.ofNat 32 f).toNat = (BitVec.ofNat 32 (f % 2 ^ 32)).toNat
      rw [BitVec.toNat_ofNat, BitVec.toNat_ofNat, Nat.mod_mod]))
    rw [this]
  rw [e2, pk_andN (Nat.mod_lt _ (by decide)) 7 (by decide)]
  exact congrArg nI (by omega)
