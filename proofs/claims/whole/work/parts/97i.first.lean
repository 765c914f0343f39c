/-! the invariant at first -/
def inv_c (h : MH) : Bool := ([(1, 1), (334, 1), (0, 4), (334, 2), (0, 9), (0, 10), (334, 25), (20, 5), (21, 0), (21, 1), (21, 2), (21, 3), (24, 6), (24, 5), (24, 1), (25, 0), (32, 6), (32, 5), (32, 1), (33, 0)] : List (Int × Int)).all (fun p => decide (m_rd h p.1 p.2 = 0)) && (([(344, 167), (22, 5), (23, 6), (30, 6), (31, 6), (38, 6), (39, 6), (44, 4), (358, 4)] : List (Int × Nat)).all (fun p => (List.range p.2).all (fun j => decide (m_rd h p.1 (j : Int) = 0))) && (decide (m_rd h 20 3 = m_rd h 334 21) && (decide (m_rd h 20 4 = m_rd h 334 22) && (decide (m_rd h 334 21 = -1) && (decide (0 ≤ m_rd h 334 22) && decide (m_rd h 334 22 ≤ 2147483647))))))
theorem inv_c_ok : inv_c hB1 = true := by decide +kernel
def Zr (S : Int → Int) : Prop := ∀ k, 0 ≤ k → k < 167 → S k = 0
theorem Zr.beg {S : Int → Int} (Z : Zr S) : Zr (beg S) := by
  intro k k0 k1
  have s4 := Z 4 (by omega) (by omega)
  have s5 := Z 5 (by omega) (by omega)
  rw [bg_at, s4, s5]
  by_cases c1 : k = 12
  · rw [if_pos c1]
  rw [if_neg c1]
  by_cases c2 : k = 13
  · rw [if_pos c2]
  rw [if_neg c2, if_neg (by omega), if_neg (by omega)]
  by_cases c3 : 10 ≤ k ∧ k < 82
  · rw [if_pos c3]
  · rw [if_neg c3]
    exact Z k k0 k1
theorem Zr.wf {S : Int → Int} {B0 : Int} (Z : Zr S) (b : 0 ≤ B0) : Wf B0 S := by
  have z : ∀ k, 0 ≤ k → k < 167 → S k = 0 := Z
  refine ⟨Or.inr ⟨z 0 (by omega) (by omega), z 1 (by omega) (by omega), z 2 (by omega) (by omega), z 3 (by omega) (by omega), z 4 (by omega) (by omega), z 5 (by omega) (by omega), z 12 (by omega) (by omega), z 13 (by omega) (by omega)⟩, ⟨⟨?_, ?_⟩, fun e e0 e1 => ?_, fun e e' e0 e1 e2 => ?_⟩, ⟨⟨?_, ?_⟩, fun i i0 i1 => ?_, fun i i0 i1 => ?_⟩, ?_, ?_, ?_⟩
  · rw [z 13 (by omega) (by omega)]
    omega
  · rw [z 13 (by omega) (by omega)]
    omega
  · rw [z 13 (by omega) (by omega)] at e1
    omega
  · rw [z 13 (by omega) (by omega)] at e2
    omega
  · rw [z 12 (by omega) (by omega)]
    omega
  · rw [z 12 (by omega) (by omega)]
    omega
  · rw [z (14 + i) (by omega) (by omega), z (20 + i) (by omega) (by omega)]
    omega
  · rw [z 12 (by omega) (by omega)] at i1
    omega
  · rw [z 11 (by omega) (by omega)]
    omega
  · rw [z 11 (by omega) (by omega), z 10 (by omega) (by omega)]
    omega
  · rw [z 10 (by omega) (by omega)]
    exact b
theorem Zr.wk {S : Int → Int} {h : MH} {w : Int} (Z : Zr S) (a1 : m_rd h w 6 = 0) (a2 : m_rd h w 5 = 0) (a3 : m_rd h w 1 = 0) (a4 : m_rd h (w + 1) 0 = 0) (a5 : ∀ i, 0 ≤ i → i < 6 → m_rd h (w + 6) i = 0) (a6 : ∀ i, 0 ≤ i → i < 6 → m_rd h (w + 7) i = 0) : WkR h w S := by
  have z : ∀ k, 0 ≤ k → k < 167 → S k = 0 := Z
  refine ⟨by rw [a1, z 10 (by omega) (by omega)], by rw [a2, z 11 (by omega) (by omega)], by rw [a3, z 12 (by omega) (by omega)], ⟨by rw [a4, z 13 (by omega) (by omega)], fun e e0 e1 => ?_⟩, fun i i0 i1 => by rw [a5 i i0 i1, z (14 + i) (by omega) (by omega)], fun i i0 i1 => by rw [a6 i i0 i1, z (20 + i) (by omega) (by omega)], fun i i0 i1 => ?_⟩
  · rw [z 13 (by omega) (by omega)] at e1
    omega
  · rw [z 12 (by omega) (by omega)] at i1
    omega
theorem inv_of {h : MH} (K : KK h) (c1 : h.1.1 = 359) (c2 : h.1.2.1 = 16223) (e : inv_c h = true) : Inv h := by
  unfold inv_c at e
  simp only [Bool.and_eq_true, List.all_eq_true, decide_eq_true_eq] at e
  obtain ⟨e1, e2, e3, e4, e5, e6, e7⟩ := e
  have z : ∀ a j, (a, j) ∈ ([(1, 1), (334, 1), (0, 4), (334, 2), (0, 9), (0, 10), (334, 25), (20, 5), (21, 0), (21, 1), (21, 2), (21, 3), (24, 6), (24, 5), (24, 1), (25, 0), (32, 6), (32, 5), (32, 1), (33, 0)] : List (Int × Int)) → m_rd h a j = 0 := fun a j m => e1 (a, j) m
  have r : ∀ (a : Int) (n : Nat), (a, n) ∈ ([(344, 167), (22, 5), (23, 6), (30, 6), (31, 6), (38, 6), (39, 6), (44, 4), (358, 4)] : List (Int × Nat)) → ∀ j : Int, 0 ≤ j → j < n → m_rd h a j = 0 := fun a n m j j0 j1 => by
    obtain ⟨q, rfl⟩ := Int.eq_ofNat_of_zero_le j0
    exact e2 (a, n) m q (List.mem_range.2 (by omega))
  have Z : Zr (m_rd h 344) := fun k k0 k1 => r 344 167 (by decide) k k0 k1
  have s : ∀ k, 0 ≤ k → k < 167 → m_rd h 344 k = 0 := Z
  have t1 := z 1 1 (by decide)
  have t2 := z 334 1 (by decide)
  have u1 := z 0 4 (by decide)
  have u2 := z 334 2 (by decide)
  have p1 := z 0 10 (by decide)
  have p2 := z 334 25 (by decide)
  have p3 := z 0 9 (by decide)
  refine ⟨K, ⟨by omega, by omega, by omega, fun i i0 i1 => by omega⟩, ⟨by omega, by omega, by omega, by rw [c1, u1]; rfl, by rw [c2, u1]; decide, fun k k0 k1 => by omega⟩, ⟨⟨⟨?_, ?_, ?_, ?_, fun i i0 i1 => ?_, fun i i0 i1 => ?_⟩, ?_, ?_, e3, e4, ?_, fun i i0 i1 => ?_⟩, Z.wf (by decide), Z.beg.wf (by decide), ⟨?_, ?_, fun i i0 i1 => ?_⟩, by omega, by omega, e6, e7, ?_, ?_⟩, fun k k0 k1 => ⟨?_, fun q => ?_⟩, ⟨by omega, by omega, by omega, by omega, by omega, fun j j0 j1 => by omega⟩⟩
  · rw [s 1 (by omega) (by omega)]
    exact z 21 0 (by decide)
  · rw [s 2 (by omega) (by omega)]
    exact z 21 1 (by decide)
  · rw [s 3 (by omega) (by omega)]
    exact z 21 2 (by decide)
  · unfold cod
    rw [s 0 (by omega) (by omega), if_neg (by decide)]
    exact z 21 3 (by decide)
  · rw [s 0 (by omega) (by omega), if_neg (by decide)]
    exact r 22 5 (by decide) i i0 i1
  · rw [s (82 + i) (by omega) (by omega)]
    exact r 23 6 (by decide) i i0 i1
  · exact Z.beg.wk (z 24 6 (by decide)) (z 24 5 (by decide)) (z 24 1 (by decide)) (z 25 0 (by decide)) (r 30 6 (by decide)) (r 31 6 (by decide))
  · exact Z.wk (z 32 6 (by decide)) (z 32 5 (by decide)) (z 32 1 (by decide)) (z 33 0 (by decide)) (r 38 6 (by decide)) (r 39 6 (by decide))
  · rw [s 166 (by omega) (by omega)]
    exact z 20 5 (by decide)
  · rw [s 166 (by omega) (by omega)] at i1
    omega
  · rw [s 166 (by omega) (by omega)]
    omega
  · rw [s 166 (by omega) (by omega)]
    omega
  · rw [s 166 (by omega) (by omega)] at i1
    omega
  · rw [s 4 (by omega) (by omega)]
    omega
  · rw [s 5 (by omega) (by omega)]
    omega
  · rw [r 44 4 (by decide) k k0 k1, r 358 4 (by decide) k k0 k1]
  · exact absurd (r 358 4 (by decide) k k0 k1) q
theorem Inv_0 : Inv hB1 := inv_of ⟨LR_0.1, hB1_ok, LR_0.2.1⟩ hB1_c.1 hB1_c.2 inv_c_ok
theorem owed_ok : OwedG := by
  intro xs L L0 L1 hx
  obtain ⟨hf, e, I⟩ := law_L L0 L1 hx 512 FU 0 hB1 (by omega) (by unfold FU; omega) (by omega) (by omega) Inv_0 LR_0
  obtain ⟨r1, r2, r3, r4, r5, r6⟩ := I.2.2.1
  exact ⟨hf, e, I.1.2.1, by omega, by omega⟩
