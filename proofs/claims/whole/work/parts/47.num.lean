/-! numbers: longs as whole numbers, tiles of a place -/
theorem bm64 {z : Int} (h1 : -4611686018427387904 ≤ z) (h2 : z ≤ 4611686018427387904) : z.bmod (2 ^ 64) = z := by
  unfold Int.bmod
  have : ((2 ^ 64 : Nat) : Int) = 18446744073709551616 := by decide
  rw [this]
  dsimp only
  split <;> omega
theorem bm32 {z : Int} (h1 : -1073741824 ≤ z) (h2 : z ≤ 1073741824) : z.bmod (2 ^ 32) = z := by
  unfold Int.bmod
  have : ((2 ^ 32 : Nat) : Int) = 4294967296 := by decide
  rw [this]
  dsimp only
  split <;> omega
theorem tI_add {x y : Int64} (h1 : -4611686018427387904 ≤ x.toInt + y.toInt) (h2 : x.toInt + y.toInt ≤ 4611686018427387904) : (x + y).toInt = x.toInt + y.toInt := by rw [Int64.toInt_add]; exact bm64 h1 h2
theorem tI_sub {x y : Int64} (h1 : -4611686018427387904 ≤ x.toInt - y.toInt) (h2 : x.toInt - y.toInt ≤ 4611686018427387904) : (x - y).toInt = x.toInt - y.toInt := by rw [Int64.toInt_sub]; exact bm64 h1 h2
theorem tI_mul {x y : Int64} (h1 : -4611686018427387904 ≤ x.toInt * y.toInt) (h2 : x.toInt * y.toInt ≤ 4611686018427387904) : (x * y).toInt = x.toInt * y.toInt := by rw [Int64.toInt_mul]; exact bm64 h1 h2
theorem tdiv16 (z : Int) : z.tdiv 16 = if 0 ≤ z then z / 16 else -((-z) / 16) := by
  by_cases h : 0 ≤ z
  · rw [if_pos h, Int.tdiv_eq_ediv_of_nonneg h]
  · rw [if_neg h, ← Int.tdiv_eq_ediv_of_nonneg (show 0 ≤ -z by omega), Int.neg_tdiv, Int.neg_neg]
theorem tI_div16 {x : Int64} (h1 : -1099511627776 ≤ x.toInt) (h2 : x.toInt ≤ 1099511627776) : (x / 16).toInt = if 0 ≤ x.toInt then x.toInt / 16 else -((-x.toInt) / 16) := by
  rw [Int64.toInt_div, show (16 : Int64).toInt = 16 from by decide, tdiv16]
  split <;> exact bm64 (by omega) (by omega)
theorem xor16_neg (x : Int64) : (x ^^^ 16) < 0 ↔ x < 0 := by
  have key : ∀ y : Int64, y < 0 ↔ y.toBitVec.msb = true := by
    intro y
    rw [Int64.lt_iff_toInt_lt, show (0 : Int64).toInt = 0 from by decide, BitVec.msb_eq_toInt, decide_eq_true_iff]
    rfl
  rw [key, key, Int64.toBitVec_xor, BitVec.msb_xor, show ((16 : Int64).toBitVec).msb = false from by decide]
  simp
theorem pFD16 {x : Int64} (h1 : -1099511627776 ≤ x.toInt) (h2 : x.toInt ≤ 1099511627776) : (pFD x 16).toInt = x.toInt / 16 := by
  have hd := tI_div16 h1 h2
  have h16 : (16 : Int64).toInt = 16 := by decide
  have hm : (x / 16 * 16).toInt = (x / 16).toInt * 16 := by
    rw [← h16]; exact tI_mul (by rw [h16, hd]; split <;> omega) (by rw [h16, hd]; split <;> omega)
  have hc : ((x ^^^ 16) < 0 ∧ ¬ x / 16 * 16 = x) ↔ (x.toInt < 0 ∧ ¬ (x / 16).toInt * 16 = x.toInt) := by
    rw [xor16_neg, Int64.lt_iff_toInt_lt, show (0 : Int64).toInt = 0 from by decide, ← Int64.toInt_inj, hm]
  unfold pFD
  by_cases h : (x ^^^ 16) < 0 ∧ ¬ x / 16 * 16 = x
  · rw [if_pos h]
    rw [hc, hd] at h
    rw [tI_sub (by rw [hd, show (1 : Int64).toInt = 1 from by decide]; split <;> omega) (by rw [hd, show (1 : Int64).toInt = 1 from by decide]; split <;> omega), show (1 : Int64).toInt = 1 from by decide, hd]
    rw [if_neg (by omega)] at h ⊢
    omega
  · rw [if_neg h]
    rw [hc, hd] at h
    rw [hd]
    by_cases h0 : 0 ≤ x.toInt
    · rw [if_pos h0]
    · rw [if_neg h0] at h ⊢; omega
def tFt (x : Int64) : Nat := (x.toInt / 16).toNat
def tLt (x : Int64) : Nat := (min 24 (x.toInt / 16 + 1)).toNat
theorem tLt_le (x : Int64) : tLt x ≤ 24 := by unfold tLt; omega
theorem tFt_nI {x : Int64} (h1 : -1000000 ≤ x.toInt) (h2 : x.toInt ≤ 1000000) : (lMax 0 (pFD x 16)).toInt32 = nI (tFt x) := by
  have hf := pFD16 (x := x) (by omega) (by omega)
  apply Int32.toInt_inj.mp
  rw [nI_toInt (by unfold tFt; omega)]
  unfold lMax tFt
  by_cases h : pFD x 16 < 0
  · rw [if_pos h]
    rw [Int64.lt_iff_toInt_lt, show (0 : Int64).toInt = 0 from by decide, hf] at h
    rw [show ((0 : Int64).toInt32).toInt = 0 from by decide]; omega
  · rw [if_neg h]
    rw [Int64.lt_iff_toInt_lt, show (0 : Int64).toInt = 0 from by decide, hf] at h
    rw [Int64.toInt_toInt32, hf, bm32 (by omega) (by omega)]; omega
theorem tLt_le_iff {x : Int64} (h1 : -1000000 ≤ x.toInt) (h2 : x.toInt ≤ 1000000) {i : Nat} (hi : i < 2 ^ 31) : nI i ≤ (lMin 23 (pFD x 16)).toInt32 ↔ i < tLt x := by
  have hf := pFD16 (x := x) (by omega) (by omega)
  rw [Int32.le_iff_toInt_le, nI_toInt hi]
  unfold lMin tLt
  by_cases h : pFD x 16 < 23
  · rw [if_pos h]
    rw [Int64.lt_iff_toInt_lt, show (23 : Int64).toInt = 23 from by decide, hf] at h
    rw [Int64.toInt_toInt32, hf, bm32 (by omega) (by omega)]; omega
  · rw [if_neg h]
    rw [Int64.lt_iff_toInt_lt, show (23 : Int64).toInt = 23 from by decide, hf] at h
    rw [show ((23 : Int64).toInt32).toInt = 23 from by decide]; omega
