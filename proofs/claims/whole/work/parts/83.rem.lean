/-! WHAT WAS: remember, keepsAct -/
def RemC (h h' : MH) : Prop := m_rd h' 0 9 = (m_rd h 0 9 + 1) % 20 ∧ m_rd h' 0 10 = (if m_rd h 0 10 = 20 then 20 else m_rd h 0 10 + 1) ∧ WkR h' (138 + 8 * m_rd h 0 9) (m_rd h 344) ∧ ∀ a j, 138 ≤ a → a < 298 → (a < 138 + 8 * m_rd h 0 9 ∨ 146 + 8 * m_rd h 0 9 ≤ a) → m_rd h' a j = m_rd h a j
def RemM (h h' : MH) : Prop := m_rd h' 334 25 = (if m_rd h 334 25 = 20 then 20 else m_rd h 334 25 + 1) ∧ (∀ k, 0 ≤ k → k < 72 * (m_rd h' 334 25 - 1) → m_rd h' 345 k = m_rd h 345 (k + (if m_rd h 334 25 = 20 then 72 else 0))) ∧ ∀ k, 0 ≤ k → k < 72 → m_rd h' 345 (72 * (m_rd h' 334 25 - 1) + k) = m_rd h 344 (10 + k)
def FrC (a j : Int) : Prop := (a = 0 ∧ (j = 9 ∨ j = 10)) ∨ (138 ≤ a ∧ a < 298)
def FrM (a j : Int) : Prop := (a = 334 ∧ j = 25) ∨ a = 345
theorem RemC.cg {h h1 h2 : MH} (H : RemC h h1) (p0 : 0 ≤ m_rd h 0 9) (p1 : m_rd h 0 9 < 20) (e : ∀ a j, FrC a j → m_rd h2 a j = m_rd h1 a j) : RemC h h2 := by
  unfold FrC at e
  obtain ⟨a1, a2, a3, a4⟩ := H
  refine ⟨by rw [e _ _ (by omega)]; exact a1, by rw [e _ _ (by omega)]; exact a2, a3.cg (fun a j z1 z2 => e a j (by omega)), fun a j z1 z2 z3 => ?_⟩
  rw [e a j (by omega)]
  exact a4 a j z1 z2 z3
theorem RemM.cg {h h1 h2 : MH} (H : RemM h h1) (e : ∀ a j, FrM a j → m_rd h2 a j = m_rd h1 a j) : RemM h h2 := by
  unfold FrM at e
  unfold RemM
  rw [e 334 25 (by omega), show m_rd h2 345 = m_rd h1 345 from funext fun j => e 345 j (by omega)]
  exact H
theorem RemM.pre {h0 h h1 : MH} (H : RemM h h1) (e : ∀ a j, FrM a j ∨ a = 344 → m_rd h a j = m_rd h0 a j) : RemM h0 h1 := by
  unfold FrM at e
  unfold RemM
  rw [← e 334 25 (by omega), ← show m_rd h 345 = m_rd h0 345 from funext fun j => e 345 j (by omega), ← show m_rd h 344 = m_rd h0 344 from funext fun j => e 344 j (by omega)]
  exact H
theorem mn20 {x : Int} (h0 : 0 ≤ x) (h1 : x ≤ 20) : m_mn (m_w32 (x + 1)) 20 = if x = 20 then 20 else x + 1 := by
  rw [w32_id (by omega) (by omega)]
  unfold m_mn
  split <;> split <;> omega
theorem rem_ok {h : MH} (R : WkR h 32 (m_rd h 344)) (W : Wf 999 (m_rd h 344)) (p0 : 0 ≤ m_rd h 0 9) (p1 : m_rd h 0 9 < 20) (c0 : 0 ≤ m_rd h 0 10) (c1 : m_rd h 0 10 ≤ 20) : ∃ h', GX11_remember h = some h' ∧ Fr FrC h h' ∧ RemC h h' := by
  obtain ⟨g, e, F, R'⟩ := copy10 (t := 138 + 8 * m_rd h 0 9) (a := 32) (by omega) R W.2.2.1.1.2 W.2.1.1.2
  have e9 := F.rd (x := 0) (j := 9) (by omega)
  have e10 := F.rd (x := 0) (j := 10) (by omega)
  unfold GX11_remember
  rw [gd_ib p0 p1, gd_nil, e, bv_some, e9, rd_ne (by omega), e10, mn20 c0 c1, w32_id (by omega) (by omega), Int.tmod_eq_emod_of_nonneg (by omega)]
  refine ⟨_, rfl, ?_, ?_, ?_, ?_, fun a j z1 z2 z3 => ?_⟩
  · refine ((F.wk ?_).wr ?_).wr ?_ <;> intros <;> unfold FrC <;> omega
  · simp (disch := omega) only [w32_id, rd_eq, rd_ne, cp_in, cp_out, lc_lt, lc_gt, lc_eq]
  · simp (disch := omega) only [w32_id, rd_eq, rd_ne, cp_in, cp_out, lc_lt, lc_gt, lc_eq]
  · refine R'.cg (fun a j z1 z2 => ?_)
    simp (disch := omega) only [w32_id, rd_eq, rd_ne, cp_in, cp_out, lc_lt, lc_gt, lc_eq]
  · simp (disch := omega) only [w32_id, rd_eq, rd_ne, cp_in, cp_out, lc_lt, lc_gt, lc_eq]
    exact F.rd (by omega)
theorem ka52_step {K : MH → Option MH} {f : Nat} {v u : Int} {h : MH} (hu : m_rd h 334 25 = u) (u0 : 0 ≤ u) (u1 : u < 20) (v0 : 0 ≤ v) (v1 : v < 72) : GX12_keepsAct_L52 K (f + 1) v h = GX12_keepsAct_L52 K f (v + 1) (m_wr h 345 (72 * u + v) (m_rd h 344 (10 + v))) := by
  conv => lhs; unfold GX12_keepsAct_L52
  rw [if_pos v1, hu, w32_id (x := 10 + v) (by omega) (by omega), w32_id (x := 72 * u) (by omega) (by omega), w32_id (x := 72 * u + v) (by omega) (by omega), gd_ib (by omega) (by omega), gd_ib (by omega) (by omega), gd_nil, w32_id (x := v + 1) (by omega) (by omega)]
  rfl
theorem ka52_stop {K : MH → Option MH} {f : Nat} {h : MH} : GX12_keepsAct_L52 K (f + 1) 72 h = K h := by
  conv => lhs; unfold GX12_keepsAct_L52
  rw [if_neg (by decide)]
theorem ka12_loop {K : MH → Option MH} : ∀ (m f : Nat) (v : Int) (h : MH), m < f → v + m = 1440 → 72 ≤ v → ∃ h', GX12_keepsAct_L12 K f v h = K h' ∧ Fr (fun a _ => a = 345) h h' ∧ (∀ k, v - 72 ≤ k → k < 1368 → m_rd h' 345 k = m_rd h 345 (k + 72)) ∧ (∀ k, k < v - 72 → m_rd h' 345 k = m_rd h 345 k) := by
  intro m
  induction m with
  | zero =>
    intro f v h hf hv v0
    obtain ⟨g, rfl⟩ : ∃ g, f = g + 1 := ⟨f - 1, by omega⟩
    conv => enter [1, h', 1, 1]; unfold GX12_keepsAct_L12
    rw [if_neg (by omega)]
    exact ⟨h, rfl, Fr.rf, fun k k0 k1 => by omega, fun k k0 => rfl⟩
  | succ m ih =>
    intro f v h hf hv v0
    obtain ⟨g, rfl⟩ : ∃ g, f = g + 1 := ⟨f - 1, by omega⟩
    conv => enter [1, h', 1, 1]; unfold GX12_keepsAct_L12
    rw [if_pos (by omega), w32_id (x := v - 72) (by omega) (by omega), gd_ib (by omega) (by omega), gd_ib (by omega) (by omega), gd_nil, w32_id (x := v + 1) (by omega) (by omega)]
    obtain ⟨h', e, F, q1, q2⟩ := ih g (v + 1) (m_wr h 345 (v - 72) (m_rd h 345 v)) (by omega) (by omega) (by omega)
    refine ⟨h', e, Fr.tr (Fr.wr Fr.rf rfl) F, fun k k0 k1 => ?_, fun k k0 => ?_⟩
    · by_cases c : k = v - 72
      · rw [q2 k (by omega), rd_eq rfl c, show k + 72 = v by omega]
      · rw [q1 k (by omega) k1, rd_ne (by omega)]
    · rw [q2 k (by omega), rd_ne (by omega)]
theorem ka_tail {h : MH} (u0 : 0 ≤ m_rd h 334 25) (u1 : m_rd h 334 25 < 20) : ∃ h', GX12_keepsAct_L52 (fun h3 => some (m_wr h3 334 25 (m_w32 ((m_rd h3 334 25) + 1)))) FU 0 h = some h' ∧ Fr FrM h h' ∧ m_rd h' 334 25 = m_rd h 334 25 + 1 ∧ (∀ k, 0 ≤ k → k < 72 * m_rd h 334 25 → m_rd h' 345 k = m_rd h 345 k) ∧ ∀ k, 0 ≤ k → k < 72 → m_rd h' 345 (72 * m_rd h 334 25 + k) = m_rd h 344 (10 + k) := by
  obtain ⟨g, e, F, p, q⟩ := cploop (L := GX12_keepsAct_L52 (fun h3 => some (m_wr h3 334 25 (m_w32 ((m_rd h3 334 25) + 1))))) (K := fun h3 => some (m_wr h3 334 25 (m_w32 ((m_rd h3 334 25) + 1)))) (A := 345) (B := 344) (i0 := 72 * m_rd h 334 25) (j0 := 10) (N := 72) (P := fun x => m_rd x 334 25 = m_rd h 334 25) (fun f v x px v0 v1 => ka52_step px u0 u1 v0 v1) (fun f x px => ka52_stop) (fun x i v px => by rw [rd_ne (by omega)]; exact px) (by decide) 72 FU 0 h (by unfold FU; omega) (by omega) (by omega) rfl
  rw [e, p, w32_id (by omega) (by omega)]
  refine ⟨_, rfl, ?_, ?_, fun k k0 k1 => ?_, fun k k0 k1 => ?_⟩
  · refine (F.wk ?_).wr ?_ <;> intros <;> unfold FrM <;> omega
  · simp (disch := omega) only [w32_id, rd_eq, rd_ne, cp_in, cp_out, lc_lt, lc_gt, lc_eq]
  · simp (disch := omega) only [w32_id, rd_eq, rd_ne, cp_in, cp_out, lc_lt, lc_gt, lc_eq]
    exact F.rd (by omega)
  · simp (disch := omega) only [w32_id, rd_eq, rd_ne, cp_in, cp_out, lc_lt, lc_gt, lc_eq]
    exact q k k0 k1
theorem keepsAct_ok {h : MH} (c0 : 0 ≤ m_rd h 334 25) (c1 : m_rd h 334 25 ≤ 20) : ∃ h', GX12_keepsAct h = some h' ∧ Fr FrM h h' ∧ RemM h h' := by
  unfold GX12_keepsAct
  show ∃ h', (if m_rd h 334 25 = 20 then _ else _) = some h' ∧ _
  by_cases c : m_rd h 334 25 = 20
  · rw [if_pos c]
    obtain ⟨g, e, F, q1, q2⟩ := ka12_loop (K := fun h4 => GX12_keepsAct_L52 (fun h3 => some (m_wr h3 334 25 (m_w32 ((m_rd h3 334 25) + 1)))) FU 0 (m_wr h4 334 25 (m_w32 ((m_rd h4 334 25) - 1)))) 1368 FU 72 h (by unfold FU; omega) (by omega) (by omega)
    rw [e]
    have e25 := F.rd (x := 334) (j := 25) (by omega)
    rw [e25, w32_id (by omega) (by omega)]
    obtain ⟨g2, e2, F2, z1, z2, z3⟩ := ka_tail (h := m_wr g 334 25 (m_rd h 334 25 - 1)) (by simp (disch := omega) only [w32_id, rd_eq, rd_ne, cp_in, cp_out, lc_lt, lc_gt, lc_eq]; omega) (by simp (disch := omega) only [w32_id, rd_eq, rd_ne, cp_in, cp_out, lc_lt, lc_gt, lc_eq]; omega)
    rw [rd_eq rfl rfl] at z1 z2 z3
    refine ⟨g2, e2, ?_, ?_, fun k k0 k1 => ?_, fun k k0 k1 => ?_⟩
    · refine ((F.wk ?_).wr ?_).tr F2 <;> intros <;> unfold FrM <;> omega
    · rw [if_pos c]
      omega
    · rw [z1] at k1
      rw [if_pos c, z2 k k0 (by omega), rd_ne (by omega), q1 k (by omega) (by omega)]
    · rw [z1, show m_rd h 334 25 - 1 + 1 - 1 = m_rd h 334 25 - 1 by omega, z3 k k0 k1, rd_ne (by omega), F.rd (by omega)]
  · rw [if_neg c]
    obtain ⟨g2, e2, F2, z1, z2, z3⟩ := ka_tail (h := h) (by omega) (by omega)
    refine ⟨g2, e2, F2, ?_, fun k k0 k1 => ?_, fun k k0 k1 => ?_⟩
    · rw [if_neg c]
      exact z1
    · rw [z1] at k1
      rw [if_neg c, z2 k k0 (by omega), Int.add_zero]
    · rw [z1, show m_rd h 334 25 + 1 - 1 = m_rd h 334 25 by omega]
      exact z3 k k0 k1
/-- what an act may change -/
def FrA (a j : Int) : Prop := FrC a j ∨ FrM a j ∨ (32 ≤ a ∧ a < 40) ∨ (a = 344 ∧ 10 ≤ j ∧ j < 82) ∨ Scr a j
theorem act_inv {h h' : MH} (H : Inv h) (F : Fr FrA h h') (C : RemC h h') (M : RemM h h') (R : WkR h' 32 (m_rd h' 344)) (W : Wf 999 (m_rd h' 344)) : Inv h' := by
  obtain ⟨⟨d1, d2, d3, d4, d5, d6, d7⟩, w1, w2, w3, w4, w5, w6, w7⟩ := H.2.2.2.1
  obtain ⟨f1, f2, f3⟩ := F
  unfold FrA FrC FrM Scr at f3
  refine ⟨H.1.cg f1 f2, H.2.1.cg ?_, H.2.2.1.cg f1 f2 ?_, ⟨⟨(d1.cg ?_).sg ?_, (d2.cg ?_).sg w2.2.2.1.1.2 w2.2.1.1.2 ?_, R, ?_, ?_, ?_, fun i i0 i1 => ?_⟩, W, w2.sg ?_, w3.sg ?_ ?_, ?_⟩, H.2.2.2.2.1.cg ?_, ?_⟩
  · intro a j z
    unfold RdT at z
    exact f3 a j (by omega)
  · intro a j z
    unfold RdR at z
    exact f3 a j (by omega)
  · intro a j z1 z2
    exact f3 a j (by omega)
  · intro a z
    exact f3 _ _ (by omega)
  · intro a j z1 z2
    exact f3 a j (by omega)
  · intro a z1 z2
    exact beg_sg (S := m_rd h 344) (by omega) (by omega) (fun k z => f3 _ _ (by omega)) a (by omega) (by omega)
  · rw [f3 20 3 (by omega), f3 334 21 (by omega)]
    exact d4
  · rw [f3 20 4 (by omega), f3 334 22 (by omega)]
    exact d5
  · rw [f3 20 5 (by omega), f3 344 166 (by omega)]
    exact d6
  · rw [f3 344 166 (by omega)] at i1
    have n10 := w3.2.1
    rw [f3 _ _ (by omega), f3 _ _ (by omega), f3 _ _ (by omega), f3 _ _ (by omega), f3 _ _ (by omega), f3 _ _ (by omega)]
    exact d7 i i0 i1
  · exact beg_sg (S := m_rd h 344) (by omega) (by omega) (fun k z => f3 _ _ (by omega))
  · exact f3 _ _ (by omega)
  · intro k z1 z2
    exact f3 _ _ (by omega)
  · rw [f3 334 21 (by omega), f3 334 22 (by omega), f3 334 2 (by omega), f3 344 4 (by omega), f3 344 5 (by omega)]
    exact ⟨w4, w5, w6, w7⟩
  · intro a j z
    unfold RdI at z
    exact f3 a j (by omega)
  · obtain ⟨p1, p2, p3, p4, p5, p6⟩ := H.2.2.2.2.2
    obtain ⟨c1, c2, c3, c4⟩ := C
    obtain ⟨m1, m2, m3⟩ := M
    have u1 : m_rd h' 0 10 = m_rd h' 334 25 := by rw [c2, m1, p1]
    have u2 : 1 ≤ m_rd h' 0 10 ∧ m_rd h' 0 10 ≤ 20 ∧ ((m_rd h 0 10 = 20 ∧ m_rd h' 0 10 = 20) ∨ (m_rd h 0 10 < 20 ∧ m_rd h' 0 10 = m_rd h 0 10 + 1)) := by
      rw [c2]
      split <;> omega
    refine ⟨u1, by omega, by omega, by omega, by omega, fun j j0 j1 => ?_⟩
    by_cases cj : j = 0
    · have mm : ∀ k, 0 ≤ k → k < 88 → mix (m_rd h' 344) (m_rd h' 345) (72 * (m_rd h' 0 10 - 1 - j)) k = m_rd h 344 k := by
        intro k k0 k1
        unfold mix
        by_cases c : 10 ≤ k ∧ k < 82
        · rw [if_pos c, u1, cj, Int.sub_zero, m3 _ (by omega) (by omega), show 10 + (k - 10) = k by omega]
        · rw [if_neg c]
          exact f3 _ _ (by omega)
      have pl : (m_rd h' 0 9 - 1 - j) % 20 = m_rd h 0 9 := by
        rw [c1]
        omega
      rw [pl]
      exact ⟨c3.sg w1.2.2.1.1.2 w1.2.1.1.2 (fun k z1 z2 => mm k (by omega) (by omega)), w1.sg mm⟩
    · have pl : (m_rd h' 0 9 - 1 - j) % 20 = (m_rd h 0 9 - 1 - (j - 1)) % 20 := by
        rw [c1]
        omega
      obtain ⟨b1, b2⟩ := p6 (j - 1) (by omega) (by omega)
      have mm : ∀ k, 0 ≤ k → k < 88 → mix (m_rd h' 344) (m_rd h' 345) (72 * (m_rd h' 0 10 - 1 - j)) k = mix (m_rd h 344) (m_rd h 345) (72 * (m_rd h 0 10 - 1 - (j - 1))) k := by
        refine mix_sg (fun k z => f3 _ _ (by omega)) (fun k k0 k1 => ?_)
        rw [m2 _ (by omega) (by omega)]
        rcases u2.2.2 with ⟨v1, v2⟩ | ⟨v1, v2⟩
        · rw [if_pos (by omega)]
          congr 1
          omega
        · rw [if_neg (by omega)]
          congr 1
          omega
      rw [pl]
      exact ⟨(b1.cg (h' := h') (fun a i z1 z2 => c4 a i (by omega) (by omega) (by omega))).sg b2.2.2.1.1.2 b2.2.1.1.2 (fun k z1 z2 => mm k (by omega) (by omega)), b2.sg mm⟩
