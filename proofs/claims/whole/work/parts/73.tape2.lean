theorem i2b2 {x : Int} (h1 : -2147483648 ≤ x) (h2 : x ≤ 2147483647) : m_i2b (m_i2b x) = (x % 256 + 128) % 256 - 128 := by
  rw [i2b_eq h1 h2, i2b_eq (by omega) (by omega)]
  omega
theorem four_step {u v : Int} {K : MH → Option MH} {f : Nat} {h : MH} (hk : m_kd h 335 = 3) (hv : 0 ≤ v) (h0 : 0 ≤ m_rd h 334 1) (h1 : m_rd h 334 1 < 400) : GX12_four_L3 u K (f + 1) v h = GX12_four_L3 u K f (m_w32 (v + (-8))) (m_wr (m_wr h 335 (m_rd h 334 1) (m_i2b (m_i2b (m_shr u v)))) 334 1 (m_rd h 334 1 + 1)) := by
  conv => lhs; unfold GX12_four_L3
  rw [if_neg (by omega), gd_ib h0 h1, gd_nil]
  have e : m_bst h 335 (m_i2b (m_shr u v)) = m_i2b (m_i2b (m_shr u v)) := by
    unfold m_bst
    rw [if_pos hk]
  rw [e]
  show GX12_four_L3 u K f _ (m_wr _ 334 1 (m_w32 (m_rd (m_wr h 335 _ _) 334 1 + 1))) = _
  rw [rd_a (by decide), w32_id (x := m_rd h 334 1 + 1) (by omega) (by omega)]
theorem four_end {u v : Int} {K : MH → Option MH} {f : Nat} {h : MH} (hv : v < 0) : GX12_four_L3 u K (f + 1) v h = K h := by
  conv => lhs; unfold GX12_four_L3
  rw [if_pos hv]
theorem four_ok {u : Int} {h : MH} (hk : m_kd h 335 = 3) (hu1 : -2147483648 ≤ u) (hu2 : u ≤ 2147483647) (h0 : 0 ≤ m_rd h 334 1) (h1 : m_rd h 334 1 + 4 ≤ 400) :
    ∃ h', GX12_four u h = some h' ∧ Fr (fun a j => (a = 334 ∧ j = 1) ∨ (a = 335 ∧ m_rd h 334 1 ≤ j)) h h' ∧ m_rd h' 334 1 = m_rd h 334 1 + 4 ∧ m_rd h' 335 (m_rd h 334 1) = (u / 16777216 % 256 + 128) % 256 - 128 ∧ m_rd h' 335 (m_rd h 334 1 + 1) = (u / 65536 % 256 + 128) % 256 - 128 ∧ m_rd h' 335 (m_rd h 334 1 + 2) = (u / 256 % 256 + 128) % 256 - 128 ∧ m_rd h' 335 (m_rd h 334 1 + 3) = (u % 256 + 128) % 256 - 128 := by
  obtain ⟨s, hs⟩ : ∃ s, s = m_rd h 334 1 := ⟨_, rfl⟩
  rw [← hs] at h0 h1 ⊢
  unfold GX12_four
  rw [show FU = 1995 + 1 + 1 + 1 + 1 + 1 from rfl]
  rw [four_step hk (by decide) (by omega) (by omega), ← hs, show m_w32 (24 + (-8)) = 16 from rfl]
  rw [four_step (by exact hk) (by decide) (by rw [rd_self]; omega) (by rw [rd_self]; omega), rd_self, show m_w32 (16 + (-8)) = 8 from rfl]
  rw [four_step (by exact hk) (by decide) (by rw [rd_self]; omega) (by rw [rd_self]; omega), rd_self, show m_w32 (8 + (-8)) = 0 from rfl]
  rw [four_step (by exact hk) (by decide) (by rw [rd_self]; omega) (by rw [rd_self]; omega), rd_self, show m_w32 (0 + (-8)) = (-8) from rfl]
  rw [four_end (by decide)]
  have u24 := shr_24 hu1 hu2
  have u16 := shr_16 hu1 hu2
  have u8 := shr_8 hu1 hu2
  have u0 := shr_0 hu1 hu2
  refine ⟨_, rfl, ?_, ?_, ?_, ?_, ?_, ?_⟩
  · exact ((((((((Fr.rf.wr (Or.inr ⟨rfl, by omega⟩)).wr (Or.inl ⟨rfl, rfl⟩)).wr (Or.inr ⟨rfl, by omega⟩)).wr (Or.inl ⟨rfl, rfl⟩)).wr (Or.inr ⟨rfl, by omega⟩)).wr (Or.inl ⟨rfl, rfl⟩)).wr (Or.inr ⟨rfl, by omega⟩)).wr (Or.inl ⟨rfl, rfl⟩))
  · rw [rd_self]
    omega
  · (repeat first | rw [rd_self] | rw [rd_a (by decide)] | rw [rd_i (by omega)])
    rw [i2b2 (by rw [u24]; omega) (by rw [u24]; omega), u24]
  · (repeat first | rw [rd_self] | rw [rd_a (by decide)] | rw [rd_i (by omega)])
    rw [i2b2 (by rw [u16]; omega) (by rw [u16]; omega), u16]
  · rw [show s + 2 = s + 1 + 1 by omega]
    (repeat first | rw [rd_self] | rw [rd_a (by decide)] | rw [rd_i (by omega)])
    rw [i2b2 (by rw [u8]; omega) (by rw [u8]; omega), u8]
  · rw [show s + 3 = s + 1 + 1 + 1 by omega]
    (repeat first | rw [rd_self] | rw [rd_a (by decide)] | rw [rd_i (by omega)])
    rw [i2b2 (by rw [u0]; omega) (by rw [u0]; omega), u0]
    omega
