/-! what the rows are read for -/
theorem PlR.sg {h : MH} {p : Int} {S S' : Int → Int} (H : PlR h p S) (h13 : S 13 ≤ 12) (e : ∀ k, 10 ≤ k → k < 82 → S' k = S k) : PlR h p S' := by
  obtain ⟨a, b⟩ := H
  have q := e 13 (by omega) (by omega)
  refine ⟨by omega, fun i i0 i1 => ?_⟩
  rw [e (46 + 3 * i) (by omega) (by omega), e (47 + 3 * i) (by omega) (by omega), e (48 + 3 * i) (by omega) (by omega)]
  exact b i i0 (by omega)
theorem WkR.sg {h : MH} {w : Int} {S S' : Int → Int} (H : WkR h w S) (h12 : S 12 ≤ 20) (h13 : S 13 ≤ 12) (e : ∀ k, 10 ≤ k → k < 82 → S' k = S k) : WkR h w S' := by
  obtain ⟨a1, a2, a3, a4, a5, a6, a7⟩ := H
  have q0 := e 10 (by omega) (by omega)
  have q1 := e 11 (by omega) (by omega)
  have q2 := e 12 (by omega) (by omega)
  refine ⟨by omega, by omega, by omega, a4.sg h13 e, fun i i0 i1 => ?_, fun i i0 i1 => ?_, fun i i0 i1 => ?_⟩
  · rw [e _ (by omega) (by omega)]; exact a5 i i0 i1
  · rw [e _ (by omega) (by omega)]; exact a6 i i0 i1
  · rw [e _ (by omega) (by omega)]; exact a7 i i0 (by omega)
theorem cod_sg {S S' : Int → Int} (e0 : S' 0 = S 0) (e1 : S' 1 = S 1) (e2 : S' 2 = S 2) : cod S' = cod S := by
  unfold cod
  rw [e0, e1, e2]
theorem ShR.sg {h : MH} {p : Int} {S S' : Int → Int} (H : ShR h p S) (e : ∀ k, (0 ≤ k ∧ k < 4) ∨ (82 ≤ k ∧ k < 88) → S' k = S k) : ShR h p S' := by
  obtain ⟨a1, a2, a3, a4, a5, a6⟩ := H
  have q0 := e 0 (by omega)
  have q1 := e 1 (by omega)
  have q2 := e 2 (by omega)
  have q3 := e 3 (by omega)
  refine ⟨by omega, by omega, by omega, by rw [cod_sg q0 q1 q2]; exact a4, fun i i0 i1 => ?_, fun i i0 i1 => ?_⟩
  · rw [q0, q1]; exact a5 i i0 i1
  · rw [e _ (by omega)]; exact a6 i i0 i1
theorem WfF.sg {S S' : Int → Int} (H : WfF S) (e : ∀ k, 0 ≤ k → k < 88 → S' k = S k) : WfF S' := by
  unfold WfF
  rw [e 0 (by omega) (by omega), e 1 (by omega) (by omega), e 2 (by omega) (by omega), e 3 (by omega) (by omega), e 4 (by omega) (by omega), e 5 (by omega) (by omega), e 12 (by omega) (by omega), e 13 (by omega) (by omega)]
  rcases H with ⟨a1, a2, a3, a4, a5, a6, a7, a8⟩ | H
  · refine Or.inl ⟨a1, a2, a3, a4, a5, a6, a7, fun i i0 i1 => ?_⟩
    rw [e _ (by omega) (by omega)]
    exact a8 i i0 i1
  · exact Or.inr H
theorem WfE.sg {S S' : Int → Int} (H : WfE S) (e : ∀ k, (0 ≤ k ∧ k < 4) ∨ k = 13 ∨ (46 ≤ k ∧ k < 82) → S' k = S k) : WfE S' := by
  obtain ⟨a1, a2, a3⟩ := H
  have q := e 13 (by omega)
  refine ⟨by omega, fun i i0 i1 => ?_, fun i j i0 i1 i2 => ?_⟩
  · rw [e 1 (by omega), e 2 (by omega), e 3 (by omega), e (46 + 3 * i) (by omega), e (47 + 3 * i) (by omega), e (48 + 3 * i) (by omega)]
    exact a2 i i0 (by omega)
  · rw [e (46 + 3 * i) (by omega), e (47 + 3 * i) (by omega), e (46 + 3 * j) (by omega), e (47 + 3 * j) (by omega)]
    exact a3 i j i0 i1 (by omega)
theorem WfW.sg {S S' : Int → Int} (H : WfW S) (e : ∀ k, (0 ≤ k ∧ k < 4) ∨ k = 12 ∨ (14 ≤ k ∧ k < 46) → S' k = S k) : WfW S' := by
  obtain ⟨a1, a2, a3⟩ := H
  have q := e 12 (by omega)
  refine ⟨by omega, fun i i0 i1 => ?_, fun i i0 i1 => ?_⟩
  · rw [e 3 (by omega), e (14 + i) (by omega), e (20 + i) (by omega)]
    exact a2 i i0 i1
  · rw [e (26 + i) (by omega), cod_sg (e 0 (by omega)) (e 1 (by omega)) (e 2 (by omega))]
    exact a3 i i0 (by omega)
theorem Wf.sg {B : Int} {S S' : Int → Int} (H : Wf B S) (e : ∀ k, 0 ≤ k → k < 88 → S' k = S k) : Wf B S' := by
  obtain ⟨a1, a2, a3, a4, a5, a6⟩ := H
  have q0 := e 10 (by omega) (by omega)
  have q1 := e 11 (by omega) (by omega)
  exact ⟨a1.sg e, a2.sg (fun k z => e k (by omega) (by omega)), a3.sg (fun k z => e k (by omega) (by omega)), by omega, by omega, by omega⟩
theorem WfN.sg {S S' : Int → Int} (H : WfN S) (e3 : S' 3 = S 3) (e : ∀ k, 136 ≤ k → k < 167 → S' k = S k) : WfN S' := by
  obtain ⟨a1, a2, a3⟩ := H
  have q := e 166 (by omega) (by omega)
  refine ⟨by omega, by omega, fun i i0 i1 => ?_⟩
  rw [e3, e (136 + 3 * i) (by omega) (by omega), e (137 + 3 * i) (by omega) (by omega), e (138 + 3 * i) (by omega) (by omega)]
  exact a3 i i0 (by omega)
theorem beg_sg {S S' : Int → Int} (h4 : S 4 ≤ 12) (h5 : S 5 ≤ 12) (e : ∀ k, (0 ≤ k ∧ k < 10) ∨ (82 ≤ k ∧ k < 136) → S' k = S k) : ∀ k, 0 ≤ k → k < 88 → beg S' k = beg S k := by
  intro k k0 k1
  unfold beg
  rw [e 5 (by omega), e 4 (by omega)]
  by_cases c1 : k = 12
  · rw [if_pos c1, if_pos c1]
  rw [if_neg c1, if_neg c1]
  by_cases c2 : k = 13
  · rw [if_pos c2, if_pos c2]
  rw [if_neg c2, if_neg c2]
  by_cases c3 : 26 ≤ k ∧ k < 26 + S 5
  · rw [if_pos c3, if_pos c3, e _ (by omega)]
  rw [if_neg c3, if_neg c3]
  by_cases c4 : 46 ≤ k ∧ k < 46 + 3 * S 4
  · rw [if_pos c4, if_pos c4, e _ (by omega)]
  rw [if_neg c4, if_neg c4]
  by_cases c5 : 10 ≤ k ∧ k < 82
  · rw [if_pos c5, if_pos c5]
  rw [if_neg c5, if_neg c5, e _ (by omega)]
theorem mix_sg {S S' w w' : Int → Int} {b b' : Int} (e : ∀ k, (0 ≤ k ∧ k < 10) ∨ (82 ≤ k ∧ k < 88) → S' k = S k) (ew : ∀ k, 0 ≤ k → k < 72 → w' (b' + k) = w (b + k)) : ∀ k, 0 ≤ k → k < 88 → mix S' w' b' k = mix S w b k := by
  intro k k0 k1
  unfold mix
  by_cases c : 10 ≤ k ∧ k < 82
  · rw [if_pos c, if_pos c]
    exact ew _ (by omega) (by omega)
  · rw [if_neg c, if_neg c]
    exact e k (by omega)
theorem PastI.sg {h h' : MH} (H : PastI h) (e : ∀ a j, (a = 0 ∧ (j = 9 ∨ j = 10)) ∨ (a = 334 ∧ j = 25) ∨ (138 ≤ a ∧ a < 298) ∨ a = 345 ∨ (a = 344 ∧ ((0 ≤ j ∧ j < 10) ∨ (82 ≤ j ∧ j < 88))) → m_rd h' a j = m_rd h a j) : PastI h' := by
  have e2 : m_rd h' 345 = m_rd h 345 := funext fun j => e 345 j (by omega)
  have e3 := e 0 9 (by omega)
  have e4 := e 0 10 (by omega)
  have e5 := e 334 25 (by omega)
  unfold PastI
  rw [e2, e3, e4, e5]
  obtain ⟨a1, a2, a3, a4, a5, a6⟩ := H
  refine ⟨a1, a2, a3, a4, a5, fun j h0 h1 => ?_⟩
  obtain ⟨b1, b2⟩ := a6 j h0 h1
  have m := mix_sg (b := 72 * (m_rd h 0 10 - 1 - j)) (b' := 72 * (m_rd h 0 10 - 1 - j)) (S := m_rd h 344) (S' := m_rd h' 344) (w := m_rd h 345) (w' := m_rd h 345) (fun k z => e 344 k (by omega)) (fun k _ _ => rfl)
  have n12 := b2.2.2.1.1.2
  have n13 := b2.2.1.1.2
  exact ⟨(b1.cg (fun a j z1 z2 => e a j (by omega))).sg n12 n13 (fun k z1 z2 => m k (by omega) (by omega)), b2.sg m⟩
