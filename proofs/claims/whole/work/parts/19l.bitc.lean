/-! ===== Long.bitCount ===== -/
def jA (x : Int64) : Int64 := x - (((x).toUInt64 >>> (((1 : Int32)).toInt64.toUInt64 &&& Int64.toUInt64 63)).toInt64 &&& (6148914691236517205 : Int64))
def jB (a : Int64) : Int64 := (a &&& (3689348814741910323 : Int64)) + (((a).toUInt64 >>> (((2 : Int32)).toInt64.toUInt64 &&& Int64.toUInt64 63)).toInt64 &&& (3689348814741910323 : Int64))
def jC (b : Int64) : Int64 := (b + ((b).toUInt64 >>> (((4 : Int32)).toInt64.toUInt64 &&& Int64.toUInt64 63)).toInt64) &&& (1085102592571150095 : Int64)
def jD (c : Int64) : Int64 := c + ((c).toUInt64 >>> (((8 : Int32)).toInt64.toUInt64 &&& Int64.toUInt64 63)).toInt64
def jE (c : Int64) : Int64 := c + ((c).toUInt64 >>> (((16 : Int32)).toInt64.toUInt64 &&& Int64.toUInt64 63)).toInt64
def jF (c : Int64) : Int64 := c + ((c).toUInt64 >>> (((32 : Int32)).toInt64.toUInt64 &&& Int64.toUInt64 63)).toInt64
theorem bc_eq (x : Int64) : f_J13_bitCount_95d88 x = some ((jF (jE (jD (jC (jB (jA x)))))).toInt32 &&& 127) := rfl
theorem sh1 {n : Nat} (hn : n < 2 ^ 64) : ((lN n).toUInt64 >>> (((1 : Int32)).toInt64.toUInt64 &&& Int64.toUInt64 63)).toInt64 = lN (n / 2) := wb_shr (k := 1) hn (by decide)
theorem sh2 {n : Nat} (hn : n < 2 ^ 64) : ((lN n).toUInt64 >>> (((2 : Int32)).toInt64.toUInt64 &&& Int64.toUInt64 63)).toInt64 = lN (n / 4) := wb_shr (k := 2) hn (by decide)
theorem sh4 {n : Nat} (hn : n < 2 ^ 64) : ((lN n).toUInt64 >>> (((4 : Int32)).toInt64.toUInt64 &&& Int64.toUInt64 63)).toInt64 = lN (n / 16) := wb_shr (k := 4) hn (by decide)
theorem sh8 {n : Nat} (hn : n < 2 ^ 64) : ((lN n).toUInt64 >>> (((8 : Int32)).toInt64.toUInt64 &&& Int64.toUInt64 63)).toInt64 = lN (n / 256) := wb_shr (k := 8) hn (by decide)
theorem sh16 {n : Nat} (hn : n < 2 ^ 64) : ((lN n).toUInt64 >>> (((16 : Int32)).toInt64.toUInt64 &&& Int64.toUInt64 63)).toInt64 = lN (n / 65536) := wb_shr (k := 16) hn (by decide)
theorem sh32 {n : Nat} (hn : n < 2 ^ 64) : ((lN n).toUInt64 >>> (((32 : Int32)).toInt64.toUInt64 &&& Int64.toUInt64 63)).toInt64 = lN (n / 4294967296) := wb_shr (k := 32) hn (by decide)
theorem mk85 : mk 85 8 = 6148914691236517205 := by decide
theorem mk51 : mk 51 8 = 3689348814741910323 := by decide
theorem mk15 : mk 15 8 = 1085102592571150095 := by decide
theorem nI_127 (n : Nat) : nI n &&& 127 = nI (n % 128) := by
  apply Int32.toBitVec_inj.mp
  rw [Int32.toBitVec_and]
  apply BitVec.eq_of_toNat_eq
  rw [BitVec.toNat_and]
  show (n % 2 ^ 32) &&& (2 ^ 7 - 1) = (n % 128) % 2 ^ 32
  rw [Nat.and_two_pow_sub_one_eq_mod]
  omega
theorem bc_nat {n : Nat} (hn : n < 2 ^ 64) : f_J13_bitCount_95d88 (lN n) = some (nI (fb_ct n.testBit 64)) := by
  have hA : jA (lN n) = lN (pcA 8 n) ∧ pcA 8 n < 2 ^ 64 := by
    unfold jA pcA
    rw [sh1 hn, mk85, show (6148914691236517205 : Int64) = lN 6148914691236517205 from rfl, wb_and (by omega) (by decide)]
    have h : (n / 2 &&& 6148914691236517205) ≤ n / 2 := Nat.and_le_left
    exact ⟨lN_sub (by omega), by omega⟩
  have hB : jB (lN (pcA 8 n)) = lN (pcB 8 (pcA 8 n)) ∧ pcB 8 (pcA 8 n) ≤ 2 * 3689348814741910323 := by
    have h2 := hA.2
    generalize pcA 8 n = a at h2 ⊢
    unfold jB pcB
    rw [sh2 h2, mk51, show (3689348814741910323 : Int64) = lN 3689348814741910323 from rfl, wb_and h2 (by decide), wb_and (by omega) (by decide), lN_add]
    have h3 : (a &&& 3689348814741910323) ≤ 3689348814741910323 := Nat.and_le_right
    have h4 : (a / 4 &&& 3689348814741910323) ≤ 3689348814741910323 := Nat.and_le_right
    exact ⟨rfl, by omega⟩
  have hC : jC (lN (pcB 8 (pcA 8 n))) = lN (pcC 8 (pcB 8 (pcA 8 n))) ∧ pcC 8 (pcB 8 (pcA 8 n)) ≤ 1085102592571150095 := by
    have h2 := hB.2
    generalize pcB 8 (pcA 8 n) = b at h2 ⊢
    unfold jC pcC
    rw [sh4 (by omega), mk15, lN_add, show (1085102592571150095 : Int64) = lN 1085102592571150095 from rfl, wb_and (by omega) (by decide)]
    exact ⟨rfl, Nat.and_le_right⟩
  rw [bc_eq, hA.1, hB.1, hC.1, ← pc_nat hn]
  have h2 := hC.2
  generalize pcC 8 (pcB 8 (pcA 8 n)) = c at h2 ⊢
  unfold jD jE jF pcF
  rw [sh8 (by omega), lN_add, sh16 (by omega), lN_add, sh32 (by omega), lN_add, lN_i, nI_127]
theorem bcC {x : Int64} {p : Nat → Bool} (h : BS x p) : f_J13_bitCount_95d88 x = some (nI (fb_ct p 64)) := by
  obtain ⟨n, hn, rfl⟩ := wb_of x
  rw [bc_nat hn]
  congr 2
  apply fb_ct_cong
  intro k hk
  rw [← lN_testBit hn]
  exact h k hk
