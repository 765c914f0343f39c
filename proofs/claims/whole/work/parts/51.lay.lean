/-! THE TWO OBJECTS ARE MADE: run on the machine itself -/
def hA0 : MH := m_al h_0 111 0 (m_ft 11).length (fun j => bif Nat.beq ((m_ft 11).getD j.toNat 0) 2 then -1 else 0)
def rA1 : MR := m_run (fun _ => 0) 0 600 50 iX11_init 0 (m_ent 2 [.inr (.inr 0)]) [] hA0
def hA1 : MH := rA1.2
def hB0 : MH := m_al hA1 112 0 (m_ft 12).length (fun j => bif Nat.beq ((m_ft 12).getD j.toNat 0) 2 then -1 else 0)
def rB1 : MR := m_run (fun _ => 0) 0 600 50 iX12_init 0 (m_ent 1 [.inr (.inr 334)]) [] hB0
def hB1 : MH := rB1.2
theorem free_A : m_free 5 iX11_init = true := by decide +kernel
theorem free_B : m_free 5 iX12_init = true := by decide +kernel
theorem hA1_ok : m_ok hA1 = true := by decide +kernel
theorem hA1_c : hA1.1.1 = 334 := by decide +kernel
theorem hA1_v : rA1.1 = none := by decide +kernel
theorem hB1_ok : m_ok hB1 = true := by decide +kernel
theorem hB1_v : rB1.1 = none := by decide +kernel
theorem hB1_c : hB1.1.1 = 359 ∧ hB1.1.2.1 = 16223 := by decide +kernel
theorem pr_eq {a : MR} {v : Option MV} (h : a.1 = v) : a = (v, a.2) := by
  subst h
  rfl
theorem rA1_d : rA1 = m_run (fun _ => 0) 0 600 50 iX11_init 0 (m_ent 2 [.inr (.inr 0)]) [] hA0 := by unfold rA1; rfl
theorem rB1_d : rB1 = m_run (fun _ => 0) 0 600 50 iX12_init 0 (m_ent 1 [.inr (.inr 334)]) [] hB0 := by unfold rB1; rfl
theorem rA1_e : rA1 = (none, hA1) := pr_eq hA1_v
theorem rB1_e : rB1 = (none, hB1) := pr_eq hB1_v
section RNw
variable {xs : Int → Int} {L : Int} {q : MI} {d pc : Nat} {lv : LV} {st r : List MV} {h : MH} {R : MR}
theorem RN.ci2 {i k : Nat} {q2 : MI} {as : List MV} {v : Option MV} {h1 : MH} (hs : m_isop q.2.2.2.2.2 pc (.invokespecial i) = true) (hM : m_l (m_M q.1).2.2 i = some k) (hk : m_mi k = some q2) (ha : m_args q2.2.2.1 [] st = some (as, r)) (hsum : Nat.ble (m_sum r) 8 = true) (he : Nat.ble (m_entA as).length q2.2.2.2.1 = true) (hr : m_rcv q2.1 as h = true) (hcal : ∃ N : Nat, ∀ n : Nat, N ≤ n → m_run xs L n d q2 0 (m_ent q2.2.2.2.1 as) [] h = (v, h1)) (k9 : RN xs L q (d + 1) (pc + 3) lv (v.toList ++ r) h1 R) : RN xs L q (d + 1) pc lv st h R := by
  intro ls hl H
  obtain ⟨N1, hN1⟩ := hcal
  obtain ⟨N2, hN2⟩ := k9 ls hl H
  refine ⟨N1 + N2 + 1, fun n hn => ?_⟩
  cases n with
  | zero => omega
  | succ n =>
    conv => lhs; unfold m_run
    rw [of_decide_eq_true hs]
    dsimp only
    rw [hM]
    dsimp only
    rw [hk]
    dsimp only
    rw [ha]
    dsimp only
    rw [hN1 n (by omega), chk_t (by rw [hsum, he, hr]; rfl)]
    exact hN2 n (by omega)
theorem eA1 : m_run xs L 600 50 iX11_init 0 (m_ent 2 [.inr (.inr 0)]) [] hA0 = m_run (fun _ => 0) 0 600 50 iX11_init 0 (m_ent 2 [.inr (.inr 0)]) [] hA0 := m_free_run _ 5 _ _ _ _ _ _ free_A
theorem eB1 : m_run xs L 600 50 iX12_init 0 (m_ent 1 [.inr (.inr 334)]) [] hB0 = m_run (fun _ => 0) 0 600 50 iX12_init 0 (m_ent 1 [.inr (.inr 334)]) [] hB0 := m_free_run _ 5 _ _ _ _ _ _ free_B
theorem eA2 : m_run xs L 600 50 iX11_init 0 (m_ent 2 [.inr (.inr 0)]) [] hA0 = (none, hA1) := by
  rw [eA1, ← rA1_d]
  exact rA1_e
theorem eB2 : m_run xs L 600 50 iX12_init 0 (m_ent 1 [.inr (.inr 334)]) [] hB0 = (none, hB1) := by
  rw [eB1, ← rB1_d]
  exact rB1_e
theorem new_A : ∃ N : Nat, ∀ n : Nat, N ≤ n → m_run xs L n 50 iX11_init 0 (m_ent 2 [.inr (.inr 0)]) [] hA0 = (none, hA1) := by
  refine ⟨600, m_run_le (R := (none, hA1)) eA2 ?_⟩
  dsimp only
  exact hA1_ok
theorem new_B : ∃ N : Nat, ∀ n : Nat, N ≤ n → m_run xs L n 50 iX12_init 0 (m_ent 1 [.inr (.inr 334)]) [] hB0 = (none, hB1) := by
  refine ⟨600, m_run_le (R := (none, hB1)) eB2 ?_⟩
  dsimp only
  exact hB1_ok
end RNw
