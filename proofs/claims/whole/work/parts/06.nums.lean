/-! the pure machine's numbers and the machine's -/
def j32 (z : Int) : Prop := -2147483648 ≤ z ∧ z ≤ 2147483647
def j64 (z : Int) : Prop := -9223372036854775808 ≤ z ∧ z ≤ 9223372036854775807
theorem w32_bmod (z : Int) : w32 z = z.bmod 4294967296 := by
  unfold w32 Int.bmod
  dsimp only
  split <;> omega
theorem w64_bmod (z : Int) : w64 z = z.bmod 18446744073709551616 := by
  unfold w64 Int.bmod
  dsimp only
  split <;> omega
theorem w32_ok (z : Int) : j32 (w32 z) := by unfold j32 w32; omega
theorem w64_ok (z : Int) : j64 (w64 z) := by unfold j64 w64; omega
theorem w32_id {z : Int} (h : j32 z) : w32 z = z := by unfold j32 at h; unfold w32; omega
theorem w64_id {z : Int} (h : j64 z) : w64 z = z := by unfold j64 at h; unfold w64; omega
theorem t32 {z : Int} (h : j32 z) : (Int32.ofInt z).toInt = z := Int32.toInt_ofInt_of_le (by unfold j32 at h; omega) (by unfold j32 at h; omega)
theorem t64 {z : Int} (h : j64 z) : (Int64.ofInt z).toInt = z := Int64.toInt_ofInt_of_le (by unfold j64 at h; omega) (by unfold j64 at h; omega)
theorem o32 (z : Int) : Int32.ofInt (w32 z) = Int32.ofInt z := by
  apply Int32.toInt_inj.1
  rw [t32 (w32_ok z), Int32.toInt_ofInt, w32_bmod]
theorem o64 (z : Int) : Int64.ofInt (w64 z) = Int64.ofInt z := by
  apply Int64.toInt_inj.1
  rw [t64 (w64_ok z), Int64.toInt_ofInt, w64_bmod]
theorem r32 (x : Int32) : j32 x.toInt := by
  have h1 := Int32.le_toInt x
  have h2 := Int32.toInt_lt x
  unfold j32; omega
theorem r64 (x : Int64) : j64 x.toInt := by
  have h1 := Int64.le_toInt x
  have h2 := Int64.toInt_lt x
  unfold j64; omega
theorem lt32 {a b : Int} (ha : j32 a) (hb : j32 b) : Int32.ofInt a < Int32.ofInt b ↔ a < b := by rw [Int32.lt_iff_toInt_lt, t32 ha, t32 hb]
theorem le32 {a b : Int} (ha : j32 a) (hb : j32 b) : Int32.ofInt a ≤ Int32.ofInt b ↔ a ≤ b := by rw [Int32.le_iff_toInt_le, t32 ha, t32 hb]
theorem eq32 {a b : Int} (ha : j32 a) (hb : j32 b) : Int32.ofInt a = Int32.ofInt b ↔ a = b := by
  rw [← Int32.toInt_inj, t32 ha, t32 hb]
theorem lt64 {a b : Int} (ha : j64 a) (hb : j64 b) : Int64.ofInt a < Int64.ofInt b ↔ a < b := by rw [Int64.lt_iff_toInt_lt, t64 ha, t64 hb]
theorem eq64 {a b : Int} (ha : j64 a) (hb : j64 b) : Int64.ofInt a = Int64.ofInt b ↔ a = b := by
  rw [← Int64.toInt_inj, t64 ha, t64 hb]
theorem z32 : j32 0 := by unfold j32; omega
theorem z64 : j64 0 := by unfold j64; omega
theorem in32 {z : Int} {n : Nat} (h : j32 z) (h0 : 0 ≤ z) (h1 : z < n) : vp_in (Int32.ofInt z) n := vp_in_iff.mpr (by rw [t32 h]; exact ⟨h0, h1⟩)
theorem cl32 {z : Int} (h : j32 z) : (Int32.ofInt z).toNatClampNeg = z.toNat := by
  show (Int32.ofInt z).toInt.toNat = z.toNat
  rw [t32 h]
theorem ge32 {z : Int} (h : j32 z) (h0 : 0 ≤ z) : ¬ Int32.ofInt z < 0 := by
  intro q
  have := (lt32 (b := 0) h z32).mp q
  omega
theorem add32 (a b : Int) : Int32.ofInt (jadd a b) = Int32.ofInt a + Int32.ofInt b := by unfold jadd; rw [o32, Int32.ofInt_add]
theorem sub32 (a b : Int) : Int32.ofInt (jsub a b) = Int32.ofInt a - Int32.ofInt b := by unfold jsub; rw [o32, Int32.ofInt_sub]
theorem mul32 (a b : Int) : Int32.ofInt (jmul a b) = Int32.ofInt a * Int32.ofInt b := by unfold jmul; rw [o32, Int32.ofInt_mul]
theorem neg32 (a : Int) : Int32.ofInt (w32 (-a)) = -Int32.ofInt a := by rw [o32, Int32.ofInt_neg]
theorem add64 (a b : Int) : Int64.ofInt (ladd a b) = Int64.ofInt a + Int64.ofInt b := by unfold ladd; rw [o64, Int64.ofInt_add]
theorem sub64 (a b : Int) : Int64.ofInt (lsub a b) = Int64.ofInt a - Int64.ofInt b := by unfold lsub; rw [o64, Int64.ofInt_sub]
theorem mul64 (a b : Int) : Int64.ofInt (lmul a b) = Int64.ofInt a * Int64.ofInt b := by unfold lmul; rw [o64, Int64.ofInt_mul]
theorem mn32 : Int32.minValue.toInt = -2147483648 := by decide
theorem mx32 : Int32.maxValue.toInt = 2147483647 := by decide
theorem mn64 : Int64.minValue.toInt = -9223372036854775808 := by decide
theorem mx64 : Int64.maxValue.toInt = 9223372036854775807 := by decide
theorem div32 {a b : Int} (ha : j32 a) (hb : j32 b) : Int32.ofInt (jdiv a b) = Int32.ofInt a / Int32.ofInt b := by
  unfold jdiv
  rw [o32]
  exact Int32.ofInt_tdiv (by rw [mn32]; exact ha.1) (by rw [mx32]; exact ha.2) (by rw [mn32]; exact hb.1) (by rw [mx32]; exact hb.2)
theorem div64 {a b : Int} (ha : j64 a) (hb : j64 b) : Int64.ofInt (ldiv a b) = Int64.ofInt a / Int64.ofInt b := by
  unfold ldiv
  rw [o64]
  exact Int64.ofInt_tdiv (by rw [mn64]; exact ha.1) (by rw [mx64]; exact ha.2) (by rw [mn64]; exact hb.1) (by rw [mx64]; exact hb.2)
theorem rem32 {a b : Int} (ha : j32 a) (hb : j32 b) : Int32.ofInt (jrem a b) = Int32.ofInt a - Int32.ofInt a / Int32.ofInt b * Int32.ofInt b := by
  unfold jrem
  rw [← div32 ha hb]
  unfold jdiv
  rw [o32, ← Int32.ofInt_mul, ← Int32.ofInt_sub]
  congr 1
  have := Int.tmod_add_tdiv_mul a b
  omega
theorem rem64 {a b : Int} (ha : j64 a) (hb : j64 b) : Int64.ofInt (lrem a b) = Int64.ofInt a - Int64.ofInt a / Int64.ofInt b * Int64.ofInt b := by
  unfold lrem
  rw [← div64 ha hb]
  unfold ldiv
  rw [o64, ← Int64.ofInt_mul, ← Int64.ofInt_sub]
  congr 1
  have := Int.tmod_add_tdiv_mul a b
  omega
theorem jrem_ok {a b : Int} (ha : j32 a) (hb : j32 b) : j32 (jrem a b) := by
  unfold jrem j32 at *
  have h1 : (a.tmod b).natAbs ≤ a.natAbs := by
    rw [Int.natAbs_tmod]
    exact Nat.mod_le _ _
  rcases Int.le_total 0 a with h | h
  · have := Int.tmod_nonneg b h
    omega
  · have : a.tmod b ≤ 0 := by
      have h2 := Int.tmod_nonneg b (a := -a) (by omega)
      rw [Int.neg_tmod] at h2
      omega
    omega
theorem lrem_ok {a b : Int} (ha : j64 a) (hb : j64 b) : j64 (lrem a b) := by
  unfold lrem j64 at *
  have h1 : (a.tmod b).natAbs ≤ a.natAbs := by
    rw [Int.natAbs_tmod]
    exact Nat.mod_le _ _
  rcases Int.le_total 0 a with h | h
  · have := Int.tmod_nonneg b h
    omega
  · have : a.tmod b ≤ 0 := by
      have h2 := Int.tmod_nonneg b (a := -a) (by omega)
      rw [Int.neg_tmod] at h2
      omega
    omega
theorem and32 (a b : Int) : Int32.ofInt (iAnd a b) = Int32.ofInt a &&& Int32.ofInt b := Int32.ofInt_toInt _
theorem or32 (a b : Int) : Int32.ofInt (iOr a b) = Int32.ofInt a ||| Int32.ofInt b := Int32.ofInt_toInt _
theorem xor32 (a b : Int) : Int32.ofInt (iXor a b) = Int32.ofInt a ^^^ Int32.ofInt b := Int32.ofInt_toInt _
theorem shl32 (a b : Int) : Int32.ofInt (iShl a b) = Int32.ofInt a <<< (Int32.ofInt b &&& 31) := Int32.ofInt_toInt _
theorem shr32 (a b : Int) : Int32.ofInt (iShr a b) = Int32.ofInt a >>> (Int32.ofInt b &&& 31) := Int32.ofInt_toInt _
theorem ushr32 (a b : Int) : Int32.ofInt (iUshr a b) = ((Int32.ofInt a).toUInt32 >>> ((Int32.ofInt b).toUInt32 &&& Int32.toUInt32 31)).toInt32 := Int32.ofInt_toInt _
theorem and64 (a b : Int) : Int64.ofInt (lAnd a b) = Int64.ofInt a &&& Int64.ofInt b := Int64.ofInt_toInt _
theorem or64 (a b : Int) : Int64.ofInt (lOr a b) = Int64.ofInt a ||| Int64.ofInt b := Int64.ofInt_toInt _
theorem shl64 (a b : Int) : Int64.ofInt (lShl a b) = Int64.ofInt a <<< ((Int32.ofInt b).toInt64 &&& 63) := Int64.ofInt_toInt _
theorem shr64 (a b : Int) : Int64.ofInt (lShr a b) = Int64.ofInt a >>> ((Int32.ofInt b).toInt64 &&& 63) := Int64.ofInt_toInt _
theorem i2l32 {a : Int} (h : j32 a) : (Int32.ofInt a).toInt64 = Int64.ofInt a := by
  apply Int64.toInt_inj.1
  rw [Int32.toInt_toInt64, t32 h, t64]
  unfold j32 at h; unfold j64; omega
theorem j32_64 {a : Int} (h : j32 a) : j64 a := by unfold j32 at h; unfold j64; omega
theorem l2i64 {a : Int} (h : j64 a) : (Int64.ofInt a).toInt32 = Int32.ofInt (w32 a) := by
  apply Int32.toInt_inj.1
  rw [Int64.toInt_toInt32, t64 h, t32 (w32_ok a), w32_bmod]
theorem lCmp_ok (a b : Int) : j32 (lCmp a b) := by
  unfold lCmp j32
  split
  · omega
  · split <;> omega
theorem cmp64 {a b : Int} (ha : j64 a) (hb : j64 b) : Int32.ofInt (lCmp a b) = lg_cmp (Int64.ofInt a) (Int64.ofInt b) := by
  unfold lCmp lg_cmp
  simp only [lt64 ha hb, lt64 hb ha, eq64 ha hb, eq64 hb ha]
  split <;> (try split) <;> (try split) <;> first | rfl | omega
