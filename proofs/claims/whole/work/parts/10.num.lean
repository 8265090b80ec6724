/-! numbers: an Int in its range is the machine's number -/
def rng32 (z : Int) : Prop := -2147483648 ≤ z ∧ z < 2147483648
def rng64 (z : Int) : Prop := -9223372036854775808 ≤ z ∧ z < 9223372036854775808
theorem bm32 (z : Int) : z.bmod (2 ^ 32) = w32 z := by
  have e : (2 ^ 32 : Nat) = 4294967296 := by decide
  rw [e]
  unfold Int.bmod w32
  simp only []
  split <;> omega
theorem bm64 (z : Int) : z.bmod (2 ^ 64) = w64 z := by
  have e : (2 ^ 64 : Nat) = 18446744073709551616 := by decide
  rw [e]
  unfold Int.bmod w64
  simp only []
  split <;> omega
theorem w32_id {z : Int} (h : rng32 z) : w32 z = z := by
  unfold rng32 at h
  unfold w32
  omega
theorem w64_id {z : Int} (h : rng64 z) : w64 z = z := by
  unfold rng64 at h
  unfold w64
  omega
theorem w32_rng (z : Int) : rng32 (w32 z) := by
  unfold rng32 w32
  omega
theorem w64_rng (z : Int) : rng64 (w64 z) := by
  unfold rng64 w64
  omega
theorem i32_to (z : Int) : (Int32.ofInt z).toInt = w32 z := by
  rw [Int32.toInt_ofInt]
  exact bm32 z
theorem i64_to (z : Int) : (Int64.ofInt z).toInt = w64 z := by
  rw [Int64.toInt_ofInt]
  exact bm64 z
theorem t32 {z : Int} (h : rng32 z) : (Int32.ofInt z).toInt = z := (i32_to z).trans (w32_id h)
theorem t64 {z : Int} (h : rng64 z) : (Int64.ofInt z).toInt = z := (i64_to z).trans (w64_id h)
theorem o32 (x : Int32) : Int32.ofInt x.toInt = x := by simp
theorem o64 (x : Int64) : Int64.ofInt x.toInt = x := by simp
theorem r32 (x : Int32) : rng32 x.toInt := ⟨Int32.le_toInt x, Int32.toInt_lt x⟩
theorem r64 (x : Int64) : rng64 x.toInt := ⟨Int64.le_toInt x, Int64.toInt_lt x⟩
theorem i32_inj {a b : Int} (ha : rng32 a) (hb : rng32 b) : Int32.ofInt a = Int32.ofInt b ↔ a = b := by
  rw [← Int32.toInt_inj, t32 ha, t32 hb]
theorem i32_lt {a b : Int} (ha : rng32 a) (hb : rng32 b) : Int32.ofInt a < Int32.ofInt b ↔ a < b := by
  rw [Int32.lt_iff_toInt_lt, t32 ha, t32 hb]
theorem i32_le {a b : Int} (ha : rng32 a) (hb : rng32 b) : Int32.ofInt a ≤ Int32.ofInt b ↔ a ≤ b := by
  rw [Int32.le_iff_toInt_le, t32 ha, t32 hb]
theorem i64_inj {a b : Int} (ha : rng64 a) (hb : rng64 b) : Int64.ofInt a = Int64.ofInt b ↔ a = b := by
  rw [← Int64.toInt_inj, t64 ha, t64 hb]
theorem i64_lt {a b : Int} (ha : rng64 a) (hb : rng64 b) : Int64.ofInt a < Int64.ofInt b ↔ a < b := by
  rw [Int64.lt_iff_toInt_lt, t64 ha, t64 hb]
theorem w32_w (z : Int) : w32 (w32 z) = w32 z := w32_id (w32_rng z)
theorem i32_w (z : Int) : Int32.ofInt (w32 z) = Int32.ofInt z := Int32.toInt_inj.mp (by rw [i32_to, i32_to, w32_w])
theorem i64_w (z : Int) : Int64.ofInt (w64 z) = Int64.ofInt z := Int64.toInt_inj.mp (by rw [i64_to, i64_to, w64_id (w64_rng z)])
theorem i32_add (a b : Int) : Int32.ofInt (w32 (a + b)) = Int32.ofInt a + Int32.ofInt b := by rw [i32_w, Int32.ofInt_add]
theorem i32_sub (a b : Int) : Int32.ofInt (w32 (a - b)) = Int32.ofInt a - Int32.ofInt b := by rw [i32_w, Int32.ofInt_sub]
theorem i32_mul (a b : Int) : Int32.ofInt (w32 (a * b)) = Int32.ofInt a * Int32.ofInt b := by rw [i32_w, Int32.ofInt_mul]
theorem i32_neg (a : Int) : Int32.ofInt (w32 (-a)) = -Int32.ofInt a := by rw [i32_w, Int32.ofInt_neg]
theorem i64_add (a b : Int) : Int64.ofInt (w64 (a + b)) = Int64.ofInt a + Int64.ofInt b := by rw [i64_w, Int64.ofInt_add]
theorem i64_sub (a b : Int) : Int64.ofInt (w64 (a - b)) = Int64.ofInt a - Int64.ofInt b := by rw [i64_w, Int64.ofInt_sub]
theorem i64_mul (a b : Int) : Int64.ofInt (w64 (a * b)) = Int64.ofInt a * Int64.ofInt b := by rw [i64_w, Int64.ofInt_mul]
theorem i_l {z : Int} (h : rng32 z) : (Int32.ofInt z).toInt64 = Int64.ofInt z := by
  apply Int64.toInt_inj.mp
  rw [Int32.toInt_toInt64, t32 h, t64 (by unfold rng32 at h; unfold rng64; omega)]
theorem l_i (z : Int) : (Int64.ofInt z).toInt32 = Int32.ofInt (w32 z) := by
  apply Int32.toInt_inj.mp
  rw [Int64.toInt_toInt32, i64_to, bm32, i32_to, w32_w]
  unfold w32 w64
  omega
theorem i8_of {v : Int} (h1 : -128 ≤ v) (h2 : v < 128) : (Int8.ofInt v).toInt32 = Int32.ofInt v := by
  apply Int32.toInt_inj.mp
  rw [Int8.toInt_toInt32, t32 (by unfold rng32; omega), Int8.toInt_ofInt]
  show v.bmod 256 = v
  unfold Int.bmod
  simp only []
  split <;> omega
theorem i16_of {v : Int} (h1 : -32768 ≤ v) (h2 : v < 32768) : (Int16.ofInt v).toInt32 = Int32.ofInt v := by
  apply Int32.toInt_inj.mp
  rw [Int16.toInt_toInt32, t32 (by unfold rng32; omega), Int16.toInt_ofInt]
  show v.bmod 65536 = v
  unfold Int.bmod
  simp only []
  split <;> omega
theorem cl_of {z : Int} (h0 : 0 ≤ z) (h : rng32 z) : (Int32.ofInt z).toNatClampNeg = z.toNat := by
  show (Int32.ofInt z).toInt.toNat = z.toNat
  rw [t32 h]
theorem in_of {z : Int} {n : Nat} (h : rng32 z) (hi : 0 ≤ z ∧ z < (n : Int)) : vp_in (Int32.ofInt z) n := by
  rw [vp_in_iff, t32 h]
  exact hi
theorem nn_of {z : Int} (h : rng32 z) (h0 : 0 ≤ z) : ¬ Int32.ofInt z < 0 := by
  rw [Int32.lt_iff_toInt_lt, t32 h]
  have : (0 : Int32).toInt = 0 := by decide
  omega
theorem cmp_of {a b : Int} (ha : rng64 a) (hb : rng64 b) : Int32.ofInt (lCmp a b) = lg_cmp (Int64.ofInt a) (Int64.ofInt b) := by
  unfold lCmp lg_cmp
  simp only [i64_lt ha hb, i64_lt hb ha, i64_inj ha hb]
  by_cases h1 : a < b
  · rw [if_pos h1, if_neg (show ¬ b < a by omega), if_neg (show ¬ a = b by omega)]; decide
  · rw [if_neg h1]
    by_cases h2 : a = b
    · rw [if_pos h2, if_neg (show ¬ b < a by omega), if_pos h2]; decide
    · rw [if_neg h2, if_pos (show b < a by omega)]; decide
