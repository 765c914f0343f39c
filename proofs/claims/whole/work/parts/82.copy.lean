/-! COPIES -/
theorem copy4 {t a : Int} {S : Int → Int} {h : MH} (dis : t + 4 ≤ a ∨ a + 4 ≤ t) (R : PlR h a S) (n13 : S 13 ≤ 12) : ∃ h', GX4_copyFrom t a h = some h' ∧ Fr (fun x _ => t ≤ x ∧ x < t + 4) h h' ∧ PlR h' t S := by
  obtain ⟨r1, r2⟩ := R
  unfold GX4_copyFrom
  refine ⟨_, rfl, ?_, ?_⟩
  · refine (((Fr.rf.wr ?_).cp ?_).cp ?_).cp ?_ <;> intros <;> omega
  · refine ⟨by simp (disch := omega) only [w32_id, rd_eq, rd_ne, cp_in, cp_out, lc_lt, lc_gt, lc_eq]; exact r1, fun e e0 e1 => ?_⟩
    obtain ⟨q1, q2, q3⟩ := r2 e e0 e1
    simp (disch := omega) only [w32_id, rd_eq, rd_ne, cp_in, cp_out, lc_lt, lc_gt, lc_eq]
    simp only [Int.zero_add, Int.sub_zero]
    exact ⟨q1, q2, q3⟩
theorem copy10 {t a : Int} {S : Int → Int} {h : MH} (dis : t + 8 ≤ a ∨ a + 8 ≤ t) (R : WkR h a S) (n12 : S 12 ≤ 20) (n13 : S 13 ≤ 12) : ∃ h', GX10_copyFrom t a h = some h' ∧ Fr (fun x _ => t ≤ x ∧ x < t + 8) h h' ∧ WkR h' t S := by
  obtain ⟨r1, r2, r3, r4, r5, r6, r7⟩ := R
  obtain ⟨g, e, F, R4⟩ := copy4 (t := t + 1) (a := a + 1) (by omega) r4 n13
  unfold GX10_copyFrom
  rw [e]
  refine ⟨_, rfl, ?_, ?_⟩
  · refine (((((((F.wk ?_).wr ?_).wr ?_).wr ?_).cp ?_).cp ?_).cp ?_) <;> intros <;> omega
  · refine ⟨?_, ?_, ?_, R4.cg ?_, fun i i0 i1 => ?_, fun i i0 i1 => ?_, fun i i0 i1 => ?_⟩
    · simp (disch := omega) only [w32_id, rd_eq, rd_ne, cp_in, cp_out, lc_lt, lc_gt, lc_eq]
      rw [F.rd (by omega)]
      exact r1
    · simp (disch := omega) only [w32_id, rd_eq, rd_ne, cp_in, cp_out, lc_lt, lc_gt, lc_eq]
      rw [F.rd (by omega)]
      exact r2
    · simp (disch := omega) only [w32_id, rd_eq, rd_ne, cp_in, cp_out, lc_lt, lc_gt, lc_eq]
      rw [F.rd (by omega)]
      exact r3
    · intro x j z1 z2
      simp (disch := omega) only [w32_id, rd_eq, rd_ne, cp_in, cp_out, lc_lt, lc_gt, lc_eq]
    · simp (disch := omega) only [w32_id, rd_eq, rd_ne, cp_in, cp_out, lc_lt, lc_gt, lc_eq]
      rw [F.rd (by omega), Int.zero_add, Int.sub_zero]
      exact r5 i i0 i1
    · simp (disch := omega) only [w32_id, rd_eq, rd_ne, cp_in, cp_out, lc_lt, lc_gt, lc_eq]
      rw [F.rd (by omega), Int.zero_add, Int.sub_zero]
      exact r6 i i0 i1
    · simp (disch := omega) only [w32_id, rd_eq, rd_ne, cp_in, cp_out, lc_lt, lc_gt, lc_eq]
      rw [F.rd (by omega), Int.zero_add, Int.sub_zero]
      exact r7 i i0 i1
theorem copy8 {t a : Int} {S : Int → Int} {h : MH} (dis : t + 3 ≤ a ∨ a + 3 ≤ t) (R : ShR h a S) : ∃ h', GX8_copyFrom t a h = some h' ∧ Fr (fun x _ => t ≤ x ∧ x < t + 3) h h' ∧ ShR h' t S := by
  obtain ⟨r1, r2, r3, r4, r5, r6⟩ := R
  unfold GX8_copyFrom
  refine ⟨_, rfl, ?_, ?_⟩
  · refine ((((((Fr.rf.wr ?_).wr ?_).wr ?_).wr ?_).cp ?_).cp ?_) <;> intros <;> omega
  · refine ⟨?_, ?_, ?_, ?_, fun i i0 i1 => ?_, fun i i0 i1 => ?_⟩
    · simp (disch := omega) only [w32_id, rd_eq, rd_ne, cp_in, cp_out, lc_lt, lc_gt, lc_eq]
      exact r1
    · simp (disch := omega) only [w32_id, rd_eq, rd_ne, cp_in, cp_out, lc_lt, lc_gt, lc_eq]
      exact r2
    · simp (disch := omega) only [w32_id, rd_eq, rd_ne, cp_in, cp_out, lc_lt, lc_gt, lc_eq]
      exact r3
    · simp (disch := omega) only [w32_id, rd_eq, rd_ne, cp_in, cp_out, lc_lt, lc_gt, lc_eq]
      exact r4
    · simp (disch := omega) only [w32_id, rd_eq, rd_ne, cp_in, cp_out, lc_lt, lc_gt, lc_eq]
      rw [Int.zero_add, Int.sub_zero]
      exact r5 i i0 i1
    · simp (disch := omega) only [w32_id, rd_eq, rd_ne, cp_in, cp_out, lc_lt, lc_gt, lc_eq]
      rw [Int.zero_add, Int.sub_zero]
      exact r6 i i0 i1
theorem copy2 {t a : Int} {S : Int → Int} {f x : Int} {h : MH} (dis : t + 23 ≤ a ∨ a + 23 ≤ t) (R : DkR h a S f x) (n12 : S 12 ≤ 20) (n13 : S 13 ≤ 12) (b12 : beg S 12 ≤ 20) (b13 : beg S 13 ≤ 12) (n166 : S 166 ≤ 10) : ∃ h', GX2_copyFrom t a h = some h' ∧ Fr (fun x _ => t ≤ x ∧ x < t + 23) h h' ∧ DkR h' t S f x := by
  obtain ⟨r1, r2, r3, r4, r5, r6, r7⟩ := R
  obtain ⟨g1, e1, F1, R1⟩ := copy8 (t := t + 1) (a := a + 1) (by omega) r1
  obtain ⟨g2, e2, F2, R2⟩ := copy10 (t := t + 4) (a := a + 4) (by omega) (r2.cg (h' := g1) (fun y j z1 z2 => F1.rd (by omega))) b12 b13
  obtain ⟨g3, e3, F3, R3⟩ := copy10 (t := t + 12) (a := a + 12) (by omega) (r3.cg (h' := g2) (fun y j z1 z2 => by rw [F2.rd (by omega), F1.rd (by omega)])) n12 n13
  have fo : ∀ y j, (y < t + 1 ∨ t + 20 ≤ y) → m_rd g3 y j = m_rd h y j := fun y j z => by rw [F3.rd (by omega), F2.rd (by omega), F1.rd (by omega)]
  unfold GX2_copyFrom
  rw [e1, bv_some, e2, bv_some, e3, bv_some]
  refine ⟨_, rfl, ?_, ?_⟩
  · refine ((((((((F1.wk ?_).tr (F2.wk ?_)).tr (F3.wk ?_)).wr ?_).wr ?_).wr ?_).cp ?_).cp ?_).cp ?_ <;> intros <;> omega
  · refine ⟨R1.cg ?_, R2.cg ?_, R3.cg ?_, ?_, ?_, ?_, fun i i0 i1 => ?_⟩
    · intro y j z1 z2
      simp (disch := omega) only [w32_id, rd_eq, rd_ne, cp_in, cp_out, lc_lt, lc_gt, lc_eq]
      rw [F3.rd (by omega), F2.rd (by omega)]
    · intro y j z1 z2
      simp (disch := omega) only [w32_id, rd_eq, rd_ne, cp_in, cp_out, lc_lt, lc_gt, lc_eq]
      rw [F3.rd (by omega)]
    · intro y j z1 z2
      simp (disch := omega) only [w32_id, rd_eq, rd_ne, cp_in, cp_out, lc_lt, lc_gt, lc_eq]
    · simp (disch := omega) only [w32_id, rd_eq, rd_ne, cp_in, cp_out, lc_lt, lc_gt, lc_eq]
      rw [fo _ _ (by omega)]
      exact r4
    · simp (disch := omega) only [w32_id, rd_eq, rd_ne, cp_in, cp_out, lc_lt, lc_gt, lc_eq]
      rw [fo _ _ (by omega)]
      exact r5
    · simp (disch := omega) only [w32_id, rd_eq, rd_ne, cp_in, cp_out, lc_lt, lc_gt, lc_eq]
      rw [fo _ _ (by omega)]
      exact r6
    · simp (disch := omega) only [w32_id, rd_eq, rd_ne, cp_in, cp_out, lc_lt, lc_gt, lc_eq]
      simp only [Int.zero_add, Int.sub_zero]
      rw [fo _ _ (by omega), fo _ _ (by omega), fo _ _ (by omega)]
      exact r7 i i0 i1
/-- a loop that copies -/
theorem cploop {α : Type} {L : Nat → Int → MH → Option α} {K : MH → Option α} {A B i0 j0 N : Int} {P : MH → Prop} (step : ∀ f v h, P h → 0 ≤ v → v < N → L (f + 1) v h = L f (v + 1) (m_wr h A (i0 + v) (m_rd h B (j0 + v)))) (stop : ∀ f h, P h → L (f + 1) N h = K h) (hP : ∀ h i v, P h → P (m_wr h A i v)) (dis : A ≠ B) : ∀ (m f : Nat) (v : Int) (h : MH), m < f → v + m = N → 0 ≤ v → P h → ∃ h', L f v h = K h' ∧ Fr (fun a j => a = A ∧ i0 + v ≤ j ∧ j < i0 + N) h h' ∧ P h' ∧ ∀ k, v ≤ k → k < N → m_rd h' A (i0 + k) = m_rd h B (j0 + k) := by
  intro m
  induction m with
  | zero =>
    intro f v h hf hv v0 p
    obtain ⟨g, rfl⟩ : ∃ g, f = g + 1 := ⟨f - 1, by omega⟩
    rw [show v = N by omega]
    exact ⟨h, stop g h p, Fr.rf, p, fun k k0 k1 => by omega⟩
  | succ m ih =>
    intro f v h hf hv v0 p
    obtain ⟨g, rfl⟩ : ∃ g, f = g + 1 := ⟨f - 1, by omega⟩
    obtain ⟨h', e, F, p', q⟩ := ih g (v + 1) (m_wr h A (i0 + v) (m_rd h B (j0 + v))) (by omega) (by omega) (by omega) (hP _ _ _ p)
    refine ⟨h', ?_, ?_, p', ?_⟩
    · rw [step g v h p v0 (by omega)]
      exact e
    · exact Fr.tr (Fr.wr Fr.rf ⟨rfl, by omega, by omega⟩) (F.wk (fun a j z => by omega))
    · intro k k0 k1
      by_cases c : k = v
      · rw [c, F.rd (by omega), rd_eq rfl rfl]
      · rw [q k (by omega) k1, rd_ne (Or.inl (Ne.symm dis))]
