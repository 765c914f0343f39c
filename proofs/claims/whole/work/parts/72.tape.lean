/-! THE TAPE: feed, end -/
/-- only what P names has changed -/
def Fr (P : Int → Int → Prop) (h h' : MH) : Prop := h'.1 = h.1 ∧ h'.2.1 = h.2.1 ∧ ∀ a j, ¬ P a j → m_rd h' a j = m_rd h a j
theorem Fr.rf {P : Int → Int → Prop} {h : MH} : Fr P h h := ⟨rfl, rfl, fun _ _ _ => rfl⟩
theorem Fr.tr {P : Int → Int → Prop} {h1 h2 h3 : MH} (a : Fr P h1 h2) (b : Fr P h2 h3) : Fr P h1 h3 := ⟨b.1.trans a.1, b.2.1.trans a.2.1, fun x j hp => (b.2.2 x j hp).trans (a.2.2 x j hp)⟩
theorem Fr.wr {P : Int → Int → Prop} {h1 h2 : MH} (a : Fr P h1 h2) {x i v : Int} (hp : P x i) : Fr P h1 (m_wr h2 x i v) := ⟨a.1, a.2.1, fun y j hq => by
  rw [m_rd_wr, if_neg]
  · exact a.2.2 y j hq
  · rintro ⟨rfl, rfl⟩
    exact hq hp⟩
theorem Fr.wk {P Q : Int → Int → Prop} {h1 h2 : MH} (a : Fr P h1 h2) (hq : ∀ x j, P x j → Q x j) : Fr Q h1 h2 := ⟨a.1, a.2.1, fun x j z => a.2.2 x j (fun w => z (hq x j w))⟩
/-- one byte of the class's tape -/
theorem add_step {u v : Int} {K : MH → Option MH} {f : Nat} {h : MH} (hv : 0 ≤ v) (h0 : 0 ≤ m_rd h 1 1) (h1 : m_rd h 1 1 < 400) : GX9_add_L3 u K (f + 1) v h = GX9_add_L3 u K f (m_w32 (v + (-8))) (m_wr (m_wr h 2 (m_rd h 1 1) (m_band (m_ushr u v) 255)) 1 1 (m_rd h 1 1 + 1)) := by
  conv => lhs; unfold GX9_add_L3
  rw [if_neg (by omega), if_pos h1, gd_ib h0 h1, gd_nil]
  show GX9_add_L3 u K f _ (m_wr _ 1 1 (m_w32 (m_rd (m_wr h 2 _ _) 1 1 + 1))) = _
  rw [rd_a (by decide), w32_id (x := m_rd h 1 1 + 1) (by omega) (by omega)]
theorem add_end {u v : Int} {K : MH → Option MH} {f : Nat} {h : MH} (hv : v < 0) : GX9_add_L3 u K (f + 1) v h = K h := by
  conv => lhs; unfold GX9_add_L3
  rw [if_pos hv]
/-- four bytes -/
def by4 (h : MH) (a s u b0 b1 b2 b3 : Int) : MH := m_wr (m_wr (m_wr (m_wr h a s b0) a (s + 1) b1) a (s + 2) b2) a (s + 3) b3
theorem add_ok {u : Int} {h : MH} (hu1 : -2147483648 ≤ u) (hu2 : u ≤ 2147483647) (h0 : 0 ≤ m_rd h 1 1) (h1 : m_rd h 1 1 + 4 ≤ 400) :
    ∃ h', GX9_add u h = some h' ∧ Fr (fun a j => (a = 1 ∧ j = 1) ∨ (a = 2 ∧ m_rd h 1 1 ≤ j)) h h' ∧ m_rd h' 1 1 = m_rd h 1 1 + 4 ∧ m_rd h' 2 (m_rd h 1 1) = u / 16777216 % 256 ∧ m_rd h' 2 (m_rd h 1 1 + 1) = u / 65536 % 256 ∧ m_rd h' 2 (m_rd h 1 1 + 2) = u / 256 % 256 ∧ m_rd h' 2 (m_rd h 1 1 + 3) = u % 256 := by
  obtain ⟨s, hs⟩ : ∃ s, s = m_rd h 1 1 := ⟨_, rfl⟩
  rw [← hs] at h0 h1 ⊢
  unfold GX9_add
  rw [show FU = 1995 + 1 + 1 + 1 + 1 + 1 from rfl]
  rw [add_step (by decide) (by omega) (by omega), ← hs, show m_w32 (24 + (-8)) = 16 from rfl]
  rw [add_step (by decide) (by rw [rd_self]; omega) (by rw [rd_self]; omega), rd_self, show m_w32 (16 + (-8)) = 8 from rfl]
  rw [add_step (by decide) (by rw [rd_self]; omega) (by rw [rd_self]; omega), rd_self, show m_w32 (8 + (-8)) = 0 from rfl]
  rw [add_step (by decide) (by rw [rd_self]; omega) (by rw [rd_self]; omega), rd_self, show m_w32 (0 + (-8)) = (-8) from rfl]
  rw [add_end (by decide)]
  obtain ⟨u24, a24, b24⟩ := ushr_24 hu1 hu2
  obtain ⟨u16, a16, b16⟩ := ushr_16 hu1 hu2
  obtain ⟨u8, a8, b8⟩ := ushr_8 hu1 hu2
  obtain ⟨u0, a0, b0⟩ := ushr_0 hu1 hu2
  refine ⟨_, rfl, ?_, ?_, ?_, ?_, ?_, ?_⟩
  · exact ((((((((Fr.rf.wr (Or.inr ⟨rfl, by omega⟩)).wr (Or.inl ⟨rfl, rfl⟩)).wr (Or.inr ⟨rfl, by omega⟩)).wr (Or.inl ⟨rfl, rfl⟩)).wr (Or.inr ⟨rfl, by omega⟩)).wr (Or.inl ⟨rfl, rfl⟩)).wr (Or.inr ⟨rfl, by omega⟩)).wr (Or.inl ⟨rfl, rfl⟩))
  · rw [rd_self]
    omega
  · (repeat first | rw [rd_self] | rw [rd_a (by decide)] | rw [rd_i (by omega)])
    rw [band255 a24 b24, u24]
  · (repeat first | rw [rd_self] | rw [rd_a (by decide)] | rw [rd_i (by omega)])
    rw [band255 a16 b16, u16]
  · rw [show s + 2 = s + 1 + 1 by omega]
    (repeat first | rw [rd_self] | rw [rd_a (by decide)] | rw [rd_i (by omega)])
    rw [band255 a8 b8, u8]
  · rw [show s + 3 = s + 1 + 1 + 1 by omega]
    (repeat first | rw [rd_self] | rw [rd_a (by decide)] | rw [rd_i (by omega)])
    rw [band255 a0 b0, u0]
    omega
