/-! NUMBERS, and reading behind writing -/
theorem w32_id {x : Int} (h1 : -2147483648 ≤ x) (h2 : x ≤ 2147483647) : m_w32 x = x := by
  unfold m_w32
  omega
theorem w64_id {x : Int} (h1 : -9223372036854775808 ≤ x) (h2 : x ≤ 9223372036854775807) : m_w64 x = x := by
  unfold m_w64
  omega
theorem rd_self {h : MH} {a i v : Int} : m_rd (m_wr h a i v) a i = v := by
  rw [m_rd_wr, if_pos ⟨rfl, rfl⟩]
theorem rd_a {h : MH} {a i v b j : Int} (hb : b ≠ a) : m_rd (m_wr h a i v) b j = m_rd h b j := by
  rw [m_rd_wr, if_neg (fun z => hb z.1)]
theorem rd_i {h : MH} {a i v b j : Int} (hj : j ≠ i) : m_rd (m_wr h a i v) b j = m_rd h b j := by
  rw [m_rd_wr, if_neg (fun z => hj z.2)]
theorem gd_ib {α : Type} {i n : Int} {cs : List Prop} {o : Option α} (h0 : 0 ≤ i) (h1 : i < n) : gd (IB i n :: cs) o = gd cs o := gd_cons ⟨h0, h1⟩
/-! bits of bytes -/
theorem i32_bm {x : Int} : (Int32.ofInt x).toInt = m_w32 x := by rw [m_w32_b, Int32.toInt_ofInt]
theorem band255 {x : Int} (h1 : -2147483648 ≤ x) (h2 : x ≤ 2147483647) : m_band x 255 = x % 256 := by
  unfold m_band
  have e1 : (Int32.ofInt x &&& Int32.ofInt 255).toInt = ((Int32.ofInt x).toBitVec &&& 255#32).toInt := rfl
  rw [e1]
  have e2 : ((Int32.ofInt x).toBitVec &&& 255#32).toNat = (Int32.ofInt x).toBitVec.toNat % 256 := by
    rw [BitVec.toNat_and]
    exact Nat.and_two_pow_sub_one_eq_mod _ 8
  have e3 : (Int32.ofInt x).toBitVec.toInt = x := by
    have := i32_bm (x := x)
    rw [w32_id h1 h2] at this
    exact this
  have e4 := BitVec.toInt_eq_toNat_cond (Int32.ofInt x).toBitVec
  have e5 := BitVec.toInt_eq_toNat_cond ((Int32.ofInt x).toBitVec &&& 255#32)
  have e6 := (Int32.ofInt x).toBitVec.isLt
  rw [e3] at e4
  rw [e5, e2]
  split at e4 <;> split <;> omega
