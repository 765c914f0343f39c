def hA0 : MH := m_al h_0 111 0 (m_ft 11).length (fun j => bif Nat.beq ((m_ft 11).getD j.toNat 0) 2 then -1 else 0)
def hA1 : MH := (m_run (fun _ => 0) 0 600 9 iX11_init 0 (m_ent 2 [.inr (.inr 0)]) [] hA0).2
theorem free_A : m_free 5 iX11_init = true := by decide +kernel
theorem free_B : m_free 5 iX12_init = true := by decide +kernel
theorem hA1_ok : m_ok hA1 = true := by decide +kernel
