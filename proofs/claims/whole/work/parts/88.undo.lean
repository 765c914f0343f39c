/-! undo, image, back -/
theorem un_step {K : MH → Option (Int × MH)} {f : Nat} {v u : Int} {h : MH} (hu : m_rd h 334 25 = u) (u0 : 0 ≤ u) (u1 : u < 20) (v0 : 0 ≤ v) (v1 : v < 72) : GX12_undo_L21 K (f + 1) v h = GX12_undo_L21 K f (v + 1) (m_wr h 344 (10 + v) (m_rd h 345 (72 * u + v))) := by
  conv => lhs; unfold GX12_undo_L21
  rw [if_pos v1, hu, w32_id (x := 10 + v) (by omega) (by omega), w32_id (x := 72 * u) (by omega) (by omega), w32_id (x := 72 * u + v) (by omega) (by omega), gd_ib (by omega) (by omega), gd_ib (by omega) (by omega), gd_nil, w32_id (x := v + 1) (by omega) (by omega)]
  rfl
theorem un_stop {K : MH → Option (Int × MH)} {f : Nat} {h : MH} : GX12_undo_L21 K (f + 1) 72 h = K h := by
  conv => lhs; unfold GX12_undo_L21
  rw [if_neg (by decide)]
theorem c_undo : Call GX11_undo GX12_undo := by
  intro h H
  obtain ⟨⟨d1, d2, d3, d4, d5, d6, d7⟩, w1, w2, w3, w4, w5, w6, w7⟩ := H.2.2.2.1
  obtain ⟨p1, p2, p3, p4, p5, p6⟩ := H.2.2.2.2.2
  unfold GX11_undo
  by_cases c : m_rd h 0 10 = 0
  · rw [if_pos c]
    refine wi_ret ?_
    unfold GX12_undo
    rw [if_pos (by omega)]
    exact wi_ret ⟨rfl, H⟩
  rw [if_neg c, w32_id (x := m_rd h 0 9 + 20) (by omega) (by omega), w32_id (x := m_rd h 0 9 + 20 - 1) (by omega) (by omega), rd_ne (by omega), w32_id (x := m_rd h 0 10 - 1) (by omega) (by omega), Int.tmod_eq_emod_of_nonneg (by omega)]
  refine wi_hl ?_
  rw [rd_ne (by omega), rd_eq rfl rfl]
  refine wi_ib (by omega) (by omega) (wi_gn ?_)
  obtain ⟨b1, b2⟩ := p6 0 (by omega) (by omega)
  rw [show (m_rd h 0 9 - 1 - 0) % 20 = (m_rd h 0 9 + 20 - 1) % 20 by omega, Int.sub_zero] at b1
  rw [Int.sub_zero] at b2
  obtain ⟨g1, e1, F1, R1⟩ := copy10 (t := 32) (a := 138 + 8 * ((m_rd h 0 9 + 20 - 1) % 20)) (h := m_wr (m_wr h 0 9 ((m_rd h 0 9 + 20 - 1) % 20)) 0 10 (m_rd h 0 10 - 1)) (by omega) (b1.cg (fun a j z1 z2 => by rw [rd_ne (by omega), rd_ne (by omega)])) b2.2.2.1.1.2 b2.2.1.1.2
  refine wi_bw e1 (wi_ret ?_)
  have fo : ∀ a j, ¬ (32 ≤ a ∧ a < 40) → ¬ (a = 0 ∧ (j = 9 ∨ j = 10)) → m_rd g1 a j = m_rd h a j := fun a j z1 z2 => by rw [F1.rd (by omega), rd_ne (by omega), rd_ne (by omega)]
  unfold GX12_undo
  have e25 := fo 334 25 (by omega) (by omega)
  rw [e25, if_neg (by omega), w32_id (by omega) (by omega)]
  obtain ⟨g2, e2, F2, q1, q2⟩ := cploop (L := GX12_undo_L21 (fun h1 => some ((m_rd h1 334 25), h1))) (K := fun h1 => some ((m_rd h1 334 25), h1)) (A := 344) (B := 345) (i0 := 10) (j0 := 72 * (m_rd h 334 25 - 1)) (N := 72) (P := fun x => m_rd x 334 25 = m_rd h 334 25 - 1) (fun f v x px v0 v1 => un_step px (by omega) (by omega) v0 v1) (fun f x px => un_stop) (fun x i v px => by rw [rd_ne (by omega)]; exact px) (by decide) 72 FU 0 (m_wr g1 334 25 (m_rd h 334 25 - 1)) (by unfold FU; omega) (by omega) (by omega) (by rw [rd_eq rfl rfl])
  refine wi_eq e2 ?_
  have fo2 : ∀ a j, ¬ (32 ≤ a ∧ a < 40) → ¬ (a = 0 ∧ (j = 9 ∨ j = 10)) → ¬ (a = 334 ∧ j = 25) → ¬ (a = 344 ∧ 10 ≤ j ∧ j < 82) → m_rd g2 a j = m_rd h a j := fun a j z1 z2 z3 z4 => by rw [F2.rd (by omega), rd_ne (by omega), fo a j z1 z2]
  have s4 : m_rd g2 344 = mix (m_rd h 344) (m_rd h 345) (72 * (m_rd h 0 10 - 1)) := by
    funext k
    unfold mix
    by_cases ck : 10 ≤ k ∧ k < 82
    · have := q2 (k - 10) (by omega) (by omega)
      rw [show 10 + (k - 10) = k by omega] at this
      rw [if_pos ck, this, rd_ne (by omega), fo _ _ (by omega) (by omega), p1]
    · rw [if_neg ck, fo2 _ _ (by omega) (by omega) (by omega) (by omega)]
  have z9 : m_rd g2 0 9 = (m_rd h 0 9 + 20 - 1) % 20 := by
    rw [F2.rd (by omega), rd_ne (by omega), F1.rd (by omega)]
    simp (disch := omega) only [w32_id, rd_eq, rd_ne, cp_in, cp_out, lc_lt, lc_gt, lc_eq]
  have z10 : m_rd g2 0 10 = m_rd h 0 10 - 1 := by
    rw [F2.rd (by omega), rd_ne (by omega), F1.rd (by omega)]
    simp (disch := omega) only [w32_id, rd_eq, rd_ne, cp_in, cp_out, lc_lt, lc_gt, lc_eq]
  have x1 : m_rd g1 0 10 = m_rd h 0 10 - 1 := by
    rw [F1.rd (by omega)]
    simp (disch := omega) only [w32_id, rd_eq, rd_ne, cp_in, cp_out, lc_lt, lc_gt, lc_eq]
  refine ⟨by omega, H.1.cg (F2.1.trans F1.1) (F2.2.1.trans F1.2.1), H.2.1.cg ?_, H.2.2.1.cg (F2.1.trans F1.1) (F2.2.1.trans F1.2.1) ?_, ⟨⟨(d1.cg ?_).sg ?_, (d2.cg ?_).sg w2.2.2.1.1.2 w2.2.1.1.2 ?_, ?_, ?_, ?_, ?_, fun i i0 i1 => ?_⟩, ?_, w2.sg ?_, w3.sg ?_ ?_, ?_⟩, H.2.2.2.2.1.cg ?_, ?_⟩
  · intro a j z
    unfold RdT at z
    exact fo2 a j (by omega) (by omega) (by omega) (by omega)
  · intro a j z
    unfold RdR at z
    exact fo2 a j (by omega) (by omega) (by omega) (by omega)
  · intro a j z1 z2
    exact fo2 a j (by omega) (by omega) (by omega) (by omega)
  · intro a z
    exact fo2 _ _ (by omega) (by omega) (by omega) (by omega)
  · intro a j z1 z2
    exact fo2 a j (by omega) (by omega) (by omega) (by omega)
  · intro a z1 z2
    exact beg_sg (S := m_rd h 344) (by omega) (by omega) (fun k z => fo2 _ _ (by omega) (by omega) (by omega) (by omega)) a (by omega) (by omega)
  · rw [s4]
    exact R1.cg (fun a j z1 z2 => by rw [F2.rd (by omega), rd_ne (by omega)])
  · rw [fo2 20 3 (by omega) (by omega) (by omega) (by omega), fo2 334 21 (by omega) (by omega) (by omega) (by omega)]
    exact d4
  · rw [fo2 20 4 (by omega) (by omega) (by omega) (by omega), fo2 334 22 (by omega) (by omega) (by omega) (by omega)]
    exact d5
  · rw [fo2 20 5 (by omega) (by omega) (by omega) (by omega), fo2 344 166 (by omega) (by omega) (by omega) (by omega)]
    exact d6
  · rw [fo2 344 166 (by omega) (by omega) (by omega) (by omega)] at i1
    have n10 := w3.2.1
    rw [fo2 _ _ (by omega) (by omega) (by omega) (by omega), fo2 _ _ (by omega) (by omega) (by omega) (by omega), fo2 _ _ (by omega) (by omega) (by omega) (by omega), fo2 _ _ (by omega) (by omega) (by omega) (by omega), fo2 _ _ (by omega) (by omega) (by omega) (by omega), fo2 _ _ (by omega) (by omega) (by omega) (by omega)]
    exact d7 i i0 i1
  · rw [s4]
    exact b2
  · exact beg_sg (S := m_rd h 344) (by omega) (by omega) (fun k z => fo2 _ _ (by omega) (by omega) (by omega) (by omega))
  · exact fo2 _ _ (by omega) (by omega) (by omega) (by omega)
  · intro k z1 z2
    exact fo2 _ _ (by omega) (by omega) (by omega) (by omega)
  · rw [fo2 334 21 (by omega) (by omega) (by omega) (by omega), fo2 334 22 (by omega) (by omega) (by omega) (by omega), fo2 334 2 (by omega) (by omega) (by omega) (by omega), fo2 344 4 (by omega) (by omega) (by omega) (by omega), fo2 344 5 (by omega) (by omega) (by omega) (by omega)]
    exact ⟨w4, w5, w6, w7⟩
  · intro a j z
    unfold RdI at z
    exact fo2 a j (by omega) (by omega) (by omega) (by omega)
  · refine ⟨by omega, by omega, by omega, by omega, by omega, fun j j0 j1 => ?_⟩
    obtain ⟨y1, y2⟩ := p6 (j + 1) (by omega) (by omega)
    have e5 : m_rd g2 345 = m_rd h 345 := funext fun i => fo2 _ _ (by omega) (by omega) (by omega) (by omega)
    rw [e5, z9, z10, show ((m_rd h 0 9 + 20 - 1) % 20 - 1 - j) % 20 = (m_rd h 0 9 - 1 - (j + 1)) % 20 by omega, show m_rd h 0 10 - 1 - 1 - j = m_rd h 0 10 - 1 - (j + 1) by omega]
    have mm := mix_sg (b := 72 * (m_rd h 0 10 - 1 - (j + 1))) (b' := 72 * (m_rd h 0 10 - 1 - (j + 1))) (S := m_rd h 344) (S' := m_rd g2 344) (w := m_rd h 345) (w' := m_rd h 345) (fun k z => fo2 _ _ (by omega) (by omega) (by omega) (by omega)) (fun k _ _ => rfl)
    exact ⟨(y1.cg (h' := g2) (fun a i z1 z2 => fo2 _ _ (by omega) (by omega) (by omega) (by omega))).sg y2.2.2.1.1.2 y2.2.1.1.2 (fun k z1 z2 => mm k (by omega) (by omega)), y2.sg mm⟩
/-! images -/
theorem DkR.sg {h : MH} {D : Int} {S S' : Int → Int} {f x : Int} (H : DkR h D S f x) (W1 : Wf 999 S) (W2 : Wf 0 (beg S)) (n : S 166 ≤ 10) (n4 : S 4 ≤ 12) (n5 : S 5 ≤ 12) (e : ∀ k, 0 ≤ k → k < 167 → S' k = S k) : DkR h D S' f x := by
  obtain ⟨a1, a2, a3, a4, a5, a6, a7⟩ := H
  have q := e 166 (by omega) (by omega)
  refine ⟨a1.sg (fun k z => e k (by omega) (by omega)), a2.sg W2.2.2.1.1.2 W2.2.1.1.2 (fun k z1 z2 => beg_sg n4 n5 (fun k z => e k (by omega) (by omega)) k (by omega) (by omega)), a3.sg W1.2.2.1.1.2 W1.2.1.1.2 (fun k z1 z2 => e k (by omega) (by omega)), a4, a5, by omega, fun i i0 i1 => ?_⟩
  rw [e _ (by omega) (by omega), e _ (by omega) (by omega), e _ (by omega) (by omega)]
  exact a7 i i0 (by omega)
theorem WfD.sg {S S' : Int → Int} {f x n : Int} (H : WfD S f x n) (e : ∀ k, 0 ≤ k → k < 167 → S' k = S k) : WfD S' f x n := by
  obtain ⟨w1, w2, w3, w4, w5, w6, w7, w8, w9⟩ := H
  have q4 := e 4 (by omega) (by omega)
  have q5 := e 5 (by omega) (by omega)
  exact ⟨w1.sg (fun k z1 z2 => e k (by omega) (by omega)), w2.sg (beg_sg w8 w9 (fun k z => e k (by omega) (by omega))), w3.sg (e 3 (by omega) (by omega)) (fun k z1 z2 => e k (by omega) (by omega)), w4, w5, w6, w7, by omega, by omega⟩
theorem bst4 {h : MH} {a : Int} (k : m_kd h a = 4) : m_bst h a 1 = 1 := by
  unfold m_bst
  rw [if_neg (by omega)]
  decide
theorem im_step {K : MH → Option (Int × MH)} {f : Nat} {v n : Int} {h : MH} (n0 : 0 ≤ n) (n1 : n < 4) (v0 : 0 ≤ v) (v1 : v < 167) : GX12_image_L43 n K (f + 1) v h = GX12_image_L43 n K f (v + 1) (m_wr h 355 (167 * n + v) (m_rd h 344 (0 + v))) := by
  conv => lhs; unfold GX12_image_L43
  rw [if_pos v1, w32_id (x := 167 * n) (by omega) (by omega), w32_id (x := 167 * n + v) (by omega) (by omega), gd_ib (by omega) (by omega), gd_ib (by omega) (by omega), gd_nil, w32_id (x := v + 1) (by omega) (by omega), Int.zero_add]
theorem im_stop {K : MH → Option (Int × MH)} {f : Nat} {n : Int} {h : MH} : GX12_image_L43 n K (f + 1) 167 h = K h := by
  conv => lhs; unfold GX12_image_L43
  rw [if_neg (by decide)]
theorem bk_step {K : MH → Option (Int × MH)} {f : Nat} {v n : Int} {h : MH} (n0 : 0 ≤ n) (n1 : n < 4) (v0 : 0 ≤ v) (v1 : v < 167) : GX12_back_L50 n K (f + 1) v h = GX12_back_L50 n K f (v + 1) (m_wr h 344 (0 + v) (m_rd h 355 (167 * n + v))) := by
  conv => lhs; unfold GX12_back_L50
  rw [if_pos v1, w32_id (x := 167 * n) (by omega) (by omega), w32_id (x := 167 * n + v) (by omega) (by omega), gd_ib (by omega) (by omega), gd_ib (by omega) (by omega), gd_nil, w32_id (x := v + 1) (by omega) (by omega), Int.zero_add]
theorem bk_stop {K : MH → Option (Int × MH)} {f : Nat} {n : Int} {h : MH} : GX12_back_L50 n K (f + 1) 167 h = K h := by
  conv => lhs; unfold GX12_back_L50
  rw [if_neg (by decide)]
theorem c_image (n : Int) : Call (GX11_image n) (GX12_image n) := by
  intro h H
  obtain ⟨D, w1, w2, w3, w4, w5, w6, w7, w8, w9⟩ := H.2.2.2.1
  unfold GX11_image
  by_cases c0 : n < 0
  · rw [if_pos c0]
    refine wi_ret ?_
    unfold GX12_image
    rw [in_ok, bd_some, if_pos (by rw [t01]; omega)]
    exact wi_ret ⟨rfl, H⟩
  rw [if_neg c0]
  by_cases c1 : n < 4
  · rw [if_pos c1]
    obtain ⟨g1, e1, F1, R1⟩ := copy2 (t := 45 + 23 * n) (a := 20) (by omega) D w1.2.2.1.1.2 w1.2.1.1.2 w2.2.2.1.1.2 w2.2.1.1.2 w3.2.1
    have k44 : m_kd g1 44 = 4 := by
      unfold m_kd
      rw [F1.2.1]
      exact congrArg Prod.fst (kk_at H.1 44 (by decide))
    refine wi_ib (by omega) (by omega) (wi_gn (wi_bw e1 (wi_ib (by omega) (by omega) (wi_gn (wi_ret ?_)))))
    rw [bst4 k44, rd_ne (by omega), F1.rd (by omega)]
    unfold GX12_image
    rw [in_ok, bd_some, if_neg (by rw [t01]; omega)]
    have k358 : m_kd (m_wr g1 44 n 1) 358 = 4 := by
      show (g1.2.1 358).1 = 4
      rw [F1.2.1]
      exact congrArg Prod.fst (kk_at H.1 358 (by decide))
    rw [bst4 k358]
    refine wi_ib (by omega) (by omega) (wi_gn (wi_ib (by omega) (by omega) (wi_gn (wi_hl (wi_ib (by omega) (by omega) (wi_gn ?_))))))
    simp (disch := omega) only [w32_id, rd_eq, rd_ne, cp_in, cp_out, lc_lt, lc_gt, lc_eq]
    obtain ⟨g2, e2, F2, q1, q2⟩ := cploop (L := GX12_image_L43 n (fun h4 => some ((m_rd h4 344 10), h4))) (K := fun h4 => some ((m_rd h4 344 10), h4)) (A := 355) (B := 344) (i0 := 167 * n) (j0 := 0) (N := 167) (P := fun _ => True) (fun f v x px v0 v1 => im_step (by omega) c1 v0 v1) (fun f x px => im_stop) (fun x i v px => trivial) (by decide) 167 FU 0 (m_wr (m_wr (m_wr (m_wr g1 44 n 1) 358 n 1) 356 n (m_rd g1 334 21)) 357 n (m_rd g1 334 22)) (by unfold FU; omega) (by omega) (by omega) trivial
    refine wi_eq e2 ?_
    have x1 : m_rd g1 334 21 = m_rd h 334 21 := F1.rd (by omega)
    have x2 : m_rd g1 334 22 = m_rd h 334 22 := F1.rd (by omega)
    have fo : ∀ a j, ¬ (45 + 23 * n ≤ a ∧ a < 68 + 23 * n) → ¬ ((a = 44 ∨ 356 ≤ a ∧ a ≤ 358) ∧ j = n) → ¬ (a = 355 ∧ 167 * n ≤ j ∧ j < 167 * n + 167) → m_rd g2 a j = m_rd h a j := by
      intro a j z1 z2 z3
      rw [F2.rd (by omega)]
      simp (disch := omega) only [w32_id, rd_eq, rd_ne, cp_in, cp_out, lc_lt, lc_gt, lc_eq]
      exact F1.rd (by omega)
    refine ⟨?_, H.1.cg (F2.1.trans F1.1) (F2.2.1.trans F1.2.1), H.2.1.cg ?_, H.2.2.1.cg (F2.1.trans F1.1) (F2.2.1.trans F1.2.1) ?_, H.2.2.2.1.cg ?_, fun k k0 k1 => ?_, H.2.2.2.2.2.cg ?_⟩
    · rw [fo 344 10 (by omega) (by omega) (by omega)]
      exact D.2.2.1.1
    · intro a j z
      unfold RdT at z
      exact fo a j (by omega) (by omega) (by omega)
    · intro a j z
      unfold RdR at z
      exact fo a j (by omega) (by omega) (by omega)
    · intro a j z
      unfold RdD at z
      exact fo a j (by omega) (by omega) (by omega)
    · by_cases ck : k = n
      · subst ck
        have y1 : m_rd g2 44 k = 1 := by
          rw [F2.rd (by omega)]
          simp (disch := omega) only [w32_id, rd_eq, rd_ne, cp_in, cp_out, lc_lt, lc_gt, lc_eq]
        have y2 : m_rd g2 358 k = 1 := by
          rw [F2.rd (by omega)]
          simp (disch := omega) only [w32_id, rd_eq, rd_ne, cp_in, cp_out, lc_lt, lc_gt, lc_eq]
        have y3 : m_rd g2 356 k = m_rd h 334 21 := by
          rw [F2.rd (by omega)]
          simp (disch := omega) only [w32_id, rd_eq, rd_ne, cp_in, cp_out, lc_lt, lc_gt, lc_eq]
          exact x1
        have y4 : m_rd g2 357 k = m_rd h 334 22 := by
          rw [F2.rd (by omega)]
          simp (disch := omega) only [w32_id, rd_eq, rd_ne, cp_in, cp_out, lc_lt, lc_gt, lc_eq]
          exact x2
        have y5 : ∀ i, 0 ≤ i → i < 167 → m_rd g2 355 (167 * k + i) = m_rd h 344 i := by
          intro i i0 i1
          rw [q2 i i0 i1, Int.zero_add]
          simp (disch := omega) only [w32_id, rd_eq, rd_ne, cp_in, cp_out, lc_lt, lc_gt, lc_eq]
          exact F1.rd (by omega)
        rw [y1, y2, y3, y4, fo 334 2 (by omega) (by omega) (by omega)]
        refine ⟨rfl, fun _ => ⟨DkR.sg (S := m_rd h 344) (R1.cg (h' := g2) ?_) w1 w2 w3.2.1 w8 w9 y5, WfD.sg (S := m_rd h 344) ⟨w1, w2, w3, w4, w5, w6, w7, w8, w9⟩ y5⟩⟩
        intro a j z1 z2
        rw [F2.rd (by omega)]
        simp (disch := omega) only [w32_id, rd_eq, rd_ne, cp_in, cp_out, lc_lt, lc_gt, lc_eq]
      · have y5 : (fun i => m_rd g2 355 (167 * k + i)) = (fun i => m_rd g2 355 (167 * k + i)) := rfl
        obtain ⟨m1, m2⟩ := H.2.2.2.2.1 k k0 k1
        rw [fo 44 k (by omega) (by omega) (by omega), fo 358 k (by omega) (by omega) (by omega), fo 356 k (by omega) (by omega) (by omega), fo 357 k (by omega) (by omega) (by omega), fo 334 2 (by omega) (by omega) (by omega)]
        refine ⟨m1, fun hk => ?_⟩
        obtain ⟨v1, v2⟩ := m2 hk
        have y6 : ∀ i, 0 ≤ i → i < 167 → m_rd g2 355 (167 * k + i) = m_rd h 355 (167 * k + i) := fun i i0 i1 => fo _ _ (by omega) (by omega) (by omega)
        exact ⟨(v1.cg (h' := g2) (fun a j z1 z2 => fo a j (by omega) (by omega) (by omega))).sg v2.1 v2.2.1 v2.2.2.1.2.1 v2.2.2.2.2.2.2.2.1 v2.2.2.2.2.2.2.2.2 y6, v2.sg y6⟩
    · intro a j z
      unfold RdP at z
      exact fo a j (by omega) (by omega) (by omega)
  · rw [if_neg c1]
    refine wi_ret ?_
    unfold GX12_image
    rw [in_ok, bd_some, if_pos (by rw [t01]; omega)]
    exact wi_ret ⟨rfl, H⟩
theorem c_back (n : Int) : Call (GX11_back n) (GX12_back n) := by
  intro h H
  unfold GX11_back
  by_cases c0 : n < 0
  · rw [if_pos c0]
    refine wi_ret ?_
    unfold GX12_back
    rw [in_ok, bd_some, if_pos (by rw [t01]; omega)]
    exact wi_ret ⟨rfl, H⟩
  rw [if_neg c0]
  by_cases c1 : n < 4
  · obtain ⟨m1, m2⟩ := H.2.2.2.2.1 n (by omega) c1
    rw [if_pos c1]
    refine wi_ib (by omega) (by omega) (wi_gn ?_)
    by_cases c2 : m_rd h 358 n = 0
    · rw [if_pos (by omega)]
      refine wi_ret ?_
      unfold GX12_back
      rw [in_ok, bd_some, if_neg (by rw [t01]; omega)]
      refine wi_ib (by omega) (by omega) (wi_gn ?_)
      rw [if_pos c2]
      exact wi_ret ⟨rfl, H⟩
    obtain ⟨D, w1, w2, w3, w4, w5, w6, w7, w8, w9⟩ := m2 c2
    obtain ⟨p1, p2, p3, p4, p5, p6⟩ := H.2.2.2.2.2
    rw [if_neg (by omega)]
    obtain ⟨g1, e1, F1, R1⟩ := copy2 (t := 20) (a := 45 + 23 * n) (by omega) D w1.2.2.1.1.2 w1.2.1.1.2 w2.2.2.1.1.2 w2.2.1.1.2 w3.2.1
    refine wi_ib (by omega) (by omega) (wi_gn (wi_bw e1 (wi_ret ?_)))
    rw [rd_ne (by omega)]
    unfold GX12_back
    rw [in_ok, bd_some, if_neg (by rw [t01]; omega)]
    refine wi_ib (by omega) (by omega) (wi_gn ?_)
    rw [rd_ne (by omega), F1.rd (by omega), if_neg c2]
    refine wi_ib (by omega) (by omega) (wi_gn (wi_ib (by omega) (by omega) (wi_gn (wi_hl ?_))))
    simp (disch := omega) only [w32_id, rd_eq, rd_ne, cp_in, cp_out, lc_lt, lc_gt, lc_eq]
    have x1 : m_rd g1 356 n = m_rd h 356 n := F1.rd (by omega)
    have x2 : m_rd g1 357 n = m_rd h 357 n := F1.rd (by omega)
    obtain ⟨g2, e2, F2, q1, q2⟩ := cploop (L := GX12_back_L50 n (fun h4 => some ((m_rd h4 344 10), h4))) (K := fun h4 => some ((m_rd h4 344 10), h4)) (A := 344) (B := 355) (i0 := 0) (j0 := 167 * n) (N := 167) (P := fun _ => True) (fun f v x px v0 v1 => bk_step (by omega) c1 v0 v1) (fun f x px => bk_stop) (fun x i v px => trivial) (by decide) 167 FU 0 (m_wr (m_wr (m_wr (m_wr g1 0 10 0) 334 21 (m_rd g1 356 n)) 334 22 (m_rd g1 357 n)) 334 25 0) (by unfold FU; omega) (by omega) (by omega) trivial
    refine wi_eq e2 ?_
    have fo : ∀ a j, ¬ (20 ≤ a ∧ a < 43) → ¬ (a = 0 ∧ j = 10) → ¬ (a = 334 ∧ (j = 21 ∨ j = 22 ∨ j = 25)) → ¬ (a = 344 ∧ 0 ≤ j ∧ j < 167) → m_rd g2 a j = m_rd h a j := by
      intro a j z1 z2 z3 z4
      rw [F2.rd (by omega)]
      simp (disch := omega) only [w32_id, rd_eq, rd_ne, cp_in, cp_out, lc_lt, lc_gt, lc_eq]
      exact F1.rd (by omega)
    have y3 : m_rd g2 334 21 = m_rd h 356 n := by
      rw [F2.rd (by omega)]
      simp (disch := omega) only [w32_id, rd_eq, rd_ne, cp_in, cp_out, lc_lt, lc_gt, lc_eq]
      exact x1
    have y4 : m_rd g2 334 22 = m_rd h 357 n := by
      rw [F2.rd (by omega)]
      simp (disch := omega) only [w32_id, rd_eq, rd_ne, cp_in, cp_out, lc_lt, lc_gt, lc_eq]
      exact x2
    have y5 : ∀ i, 0 ≤ i → i < 167 → m_rd g2 344 i = m_rd h 355 (167 * n + i) := by
      intro i i0 i1
      have := q2 i i0 i1
      rw [Int.zero_add] at this
      rw [this]
      simp (disch := omega) only [w32_id, rd_eq, rd_ne, cp_in, cp_out, lc_lt, lc_gt, lc_eq]
      exact F1.rd (by omega)
    have y6 : m_rd g2 0 10 = 0 := by
      rw [F2.rd (by omega)]
      simp (disch := omega) only [w32_id, rd_eq, rd_ne, cp_in, cp_out, lc_lt, lc_gt, lc_eq]
    have y7 : m_rd g2 334 25 = 0 := by
      rw [F2.rd (by omega)]
      simp (disch := omega) only [w32_id, rd_eq, rd_ne, cp_in, cp_out, lc_lt, lc_gt, lc_eq]
    refine ⟨?_, H.1.cg (F2.1.trans F1.1) (F2.2.1.trans F1.2.1), H.2.1.cg ?_, H.2.2.1.cg (F2.1.trans F1.1) (F2.2.1.trans F1.2.1) ?_, ⟨?_, ?_⟩, H.2.2.2.2.1.cg ?_, ?_⟩
    · rw [y5 10 (by omega) (by omega)]
      exact R1.2.2.1.1
    · intro a j z
      unfold RdT at z
      exact fo a j (by omega) (by omega) (by omega) (by omega)
    · intro a j z
      unfold RdR at z
      exact fo a j (by omega) (by omega) (by omega) (by omega)
    · rw [y3, y4]
      refine DkR.sg (R1.cg (h' := g2) ?_) w1 w2 w3.2.1 w8 w9 y5
      intro a j z1 z2
      rw [F2.rd (by omega)]
      simp (disch := omega) only [w32_id, rd_eq, rd_ne, cp_in, cp_out, lc_lt, lc_gt, lc_eq]
    · rw [y3, y4, fo 334 2 (by omega) (by omega) (by omega) (by omega)]
      exact WfD.sg ⟨w1, w2, w3, w4, w5, w6, w7, w8, w9⟩ y5
    · intro a j z
      unfold RdI at z
      exact fo a j (by omega) (by omega) (by omega) (by omega)
    · have y9 := fo 0 9 (by omega) (by omega) (by omega) (by omega)
      refine ⟨by omega, by omega, by omega, by omega, by omega, fun j j0 j1 => ?_⟩
      omega
  · rw [if_neg c1]
    refine wi_ret ?_
    unfold GX12_back
    rw [in_ok, bd_some, if_pos (by rw [t01]; omega)]
    exact wi_ret ⟨rfl, H⟩
