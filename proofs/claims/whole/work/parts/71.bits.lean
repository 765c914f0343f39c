theorem shr_0 {x : Int} (h1 : -2147483648 ≤ x) (h2 : x ≤ 2147483647) : m_shr x 0 = x / 1 := by
  unfold m_shr
  have e1 : (Int32.ofInt x >>> (Int32.ofInt 0 &&& 31)).toInt = ((Int32.ofInt x).toBitVec.sshiftRight 0).toInt := rfl
  have e3 : (Int32.ofInt x).toBitVec.toInt = x := by
    have := i32_bm (x := x)
    rw [w32_id h1 h2] at this
    exact this
  rw [e1, BitVec.toInt_sshiftRight, e3, Int.shiftRight_eq_div_pow]
  rfl
theorem ushr_0 {x : Int} (h1 : -2147483648 ≤ x) (h2 : x ≤ 2147483647) : m_ushr x 0 % 256 = x / 1 % 256 ∧ -2147483648 ≤ m_ushr x 0 ∧ m_ushr x 0 ≤ 2147483647 := by
  have e0 : m_ushr x 0 = ((Int32.ofInt x).toBitVec >>> 0).toInt := rfl
  have e3 : (Int32.ofInt x).toBitVec.toInt = x := by
    have := i32_bm (x := x)
    rw [w32_id h1 h2] at this
    exact this
  have e4 := BitVec.toInt_eq_toNat_cond (Int32.ofInt x).toBitVec
  have e5 := BitVec.toInt_eq_toNat_cond ((Int32.ofInt x).toBitVec >>> 0)
  have e6 := (Int32.ofInt x).toBitVec.isLt
  have e7 : ((Int32.ofInt x).toBitVec >>> 0).toNat = (Int32.ofInt x).toBitVec.toNat / 1 := by
    rw [BitVec.toNat_ushiftRight, Nat.shiftRight_eq_div_pow]
  rw [e3] at e4
  rw [e0, e5, e7]
  generalize (Int32.ofInt x).toBitVec.toNat = n at e4 e6 ⊢
  split at e4 <;> split <;> omega
theorem shr_8 {x : Int} (h1 : -2147483648 ≤ x) (h2 : x ≤ 2147483647) : m_shr x 8 = x / 256 := by
  unfold m_shr
  have e1 : (Int32.ofInt x >>> (Int32.ofInt 8 &&& 31)).toInt = ((Int32.ofInt x).toBitVec.sshiftRight 8).toInt := rfl
  have e3 : (Int32.ofInt x).toBitVec.toInt = x := by
    have := i32_bm (x := x)
    rw [w32_id h1 h2] at this
    exact this
  rw [e1, BitVec.toInt_sshiftRight, e3, Int.shiftRight_eq_div_pow]
  rfl
theorem ushr_8 {x : Int} (h1 : -2147483648 ≤ x) (h2 : x ≤ 2147483647) : m_ushr x 8 % 256 = x / 256 % 256 ∧ -2147483648 ≤ m_ushr x 8 ∧ m_ushr x 8 ≤ 2147483647 := by
  have e0 : m_ushr x 8 = ((Int32.ofInt x).toBitVec >>> 8).toInt := rfl
  have e3 : (Int32.ofInt x).toBitVec.toInt = x := by
    have := i32_bm (x := x)
    rw [w32_id h1 h2] at this
    exact this
  have e4 := BitVec.toInt_eq_toNat_cond (Int32.ofInt x).toBitVec
  have e5 := BitVec.toInt_eq_toNat_cond ((Int32.ofInt x).toBitVec >>> 8)
  have e6 := (Int32.ofInt x).toBitVec.isLt
  have e7 : ((Int32.ofInt x).toBitVec >>> 8).toNat = (Int32.ofInt x).toBitVec.toNat / 256 := by
    rw [BitVec.toNat_ushiftRight, Nat.shiftRight_eq_div_pow]
  rw [e3] at e4
  rw [e0, e5, e7]
  generalize (Int32.ofInt x).toBitVec.toNat = n at e4 e6 ⊢
  split at e4 <;> split <;> omega
theorem shr_16 {x : Int} (h1 : -2147483648 ≤ x) (h2 : x ≤ 2147483647) : m_shr x 16 = x / 65536 := by
  unfold m_shr
  have e1 : (Int32.ofInt x >>> (Int32.ofInt 16 &&& 31)).toInt = ((Int32.ofInt x).toBitVec.sshiftRight 16).toInt := rfl
  have e3 : (Int32.ofInt x).toBitVec.toInt = x := by
    have := i32_bm (x := x)
    rw [w32_id h1 h2] at this
    exact this
  rw [e1, BitVec.toInt_sshiftRight, e3, Int.shiftRight_eq_div_pow]
  rfl
theorem ushr_16 {x : Int} (h1 : -2147483648 ≤ x) (h2 : x ≤ 2147483647) : m_ushr x 16 % 256 = x / 65536 % 256 ∧ -2147483648 ≤ m_ushr x 16 ∧ m_ushr x 16 ≤ 2147483647 := by
  have e0 : m_ushr x 16 = ((Int32.ofInt x).toBitVec >>> 16).toInt := rfl
  have e3 : (Int32.ofInt x).toBitVec.toInt = x := by
    have := i32_bm (x := x)
    rw [w32_id h1 h2] at this
    exact this
  have e4 := BitVec.toInt_eq_toNat_cond (Int32.ofInt x).toBitVec
  have e5 := BitVec.toInt_eq_toNat_cond ((Int32.ofInt x).toBitVec >>> 16)
  have e6 := (Int32.ofInt x).toBitVec.isLt
  have e7 : ((Int32.ofInt x).toBitVec >>> 16).toNat = (Int32.ofInt x).toBitVec.toNat / 65536 := by
    rw [BitVec.toNat_ushiftRight, Nat.shiftRight_eq_div_pow]
  rw [e3] at e4
  rw [e0, e5, e7]
  generalize (Int32.ofInt x).toBitVec.toNat = n at e4 e6 ⊢
  split at e4 <;> split <;> omega
theorem shr_24 {x : Int} (h1 : -2147483648 ≤ x) (h2 : x ≤ 2147483647) : m_shr x 24 = x / 16777216 := by
  unfold m_shr
  have e1 : (Int32.ofInt x >>> (Int32.ofInt 24 &&& 31)).toInt = ((Int32.ofInt x).toBitVec.sshiftRight 24).toInt := rfl
  have e3 : (Int32.ofInt x).toBitVec.toInt = x := by
    have := i32_bm (x := x)
    rw [w32_id h1 h2] at this
    exact this
  rw [e1, BitVec.toInt_sshiftRight, e3, Int.shiftRight_eq_div_pow]
  rfl
theorem ushr_24 {x : Int} (h1 : -2147483648 ≤ x) (h2 : x ≤ 2147483647) : m_ushr x 24 % 256 = x / 16777216 % 256 ∧ -2147483648 ≤ m_ushr x 24 ∧ m_ushr x 24 ≤ 2147483647 := by
  have e0 : m_ushr x 24 = ((Int32.ofInt x).toBitVec >>> 24).toInt := rfl
  have e3 : (Int32.ofInt x).toBitVec.toInt = x := by
    have := i32_bm (x := x)
    rw [w32_id h1 h2] at this
    exact this
  have e4 := BitVec.toInt_eq_toNat_cond (Int32.ofInt x).toBitVec
  have e5 := BitVec.toInt_eq_toNat_cond ((Int32.ofInt x).toBitVec >>> 24)
  have e6 := (Int32.ofInt x).toBitVec.isLt
  have e7 : ((Int32.ofInt x).toBitVec >>> 24).toNat = (Int32.ofInt x).toBitVec.toNat / 16777216 := by
    rw [BitVec.toNat_ushiftRight, Nat.shiftRight_eq_div_pow]
  rw [e3] at e4
  rw [e0, e5, e7]
  generalize (Int32.ofInt x).toBitVec.toNat = n at e4 e6 ⊢
  split at e4 <;> split <;> omega
theorem i2b_eq {x : Int} (h1 : -2147483648 ≤ x) (h2 : x ≤ 2147483647) : m_i2b x = (x + 128) % 256 - 128 := by
  unfold m_i2b
  rw [Int8.toInt_toInt32]
  have e3 : (Int32.ofInt x).toInt = x := by
    have := i32_bm (x := x)
    rw [w32_id h1 h2] at this
    exact this
  rw [Int32.toInt_toInt8, e3, Int.bmod_def]
  split <;> omega
