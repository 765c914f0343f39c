/-! said, sent -/
noncomputable def dec (P : Prop) : Bool := @decide P (Classical.propDecidable P)
theorem dec_t {P : Prop} (h : P) : dec P = true := @decide_eq_true P (Classical.propDecidable P) h
theorem dec_f {P : Prop} (h : ¬ P) : dec P = false := @decide_eq_false P (Classical.propDecidable P) h
theorem cnt_t {p : Int → Bool} {m : Nat} {v : Int} (h : p v = true) : cntF p (m + 1) v = 1 + cntF p m (v + 1) := by
  show (if p v = true then (1 : Int) else 0) + _ = _
  rw [if_pos h]
theorem cnt_f {p : Int → Bool} {m : Nat} {v : Int} (h : p v = false) : cntF p (m + 1) v = cntF p m (v + 1) := by
  show (if p v = true then (1 : Int) else 0) + _ = _
  rw [if_neg (by rw [h]; decide), Int.zero_add]
theorem le_t {p : Int → Bool} {m : Nat} {v : Int} (h : p v = true) : leF p (m + 1) v = v := if_pos h
theorem le_f {p : Int → Bool} {m : Nat} {v : Int} (h : p v = false) : leF p (m + 1) v = leF p m (v + 1) := if_neg (by rw [h]; decide)
theorem beg_k {S : Int → Int} (h4 : S 4 ≤ 12) (h5 : S 5 ≤ 12) {k : Int} (z : k < 10 ∨ 82 ≤ k) : beg S k = S k := by
  unfold beg
  rw [if_neg (by omega), if_neg (by omega), if_neg (by omega), if_neg (by omega), if_neg (by omega)]
theorem beg_10 {S : Int → Int} (h4 : S 4 ≤ 12) (h5 : S 5 ≤ 12) : beg S 10 = 0 := by
  unfold beg
  rw [if_neg (by omega), if_neg (by omega), if_neg (by omega), if_neg (by omega), if_pos (by omega)]
theorem beg_let {S : Int → Int} {l n : Int} (h4 : S 4 ≤ 12) (h5 : S 5 ≤ 12) (l0 : 0 ≤ l) (l1 : l < S 5) : ∀ k, k < 88 → beg (ups S (124 + l) n) k = ups (beg S) (26 + l) n k := by
  intro k k1
  have u : ∀ j, j ≠ 124 + l → ups S (124 + l) n j = S j := fun j z => up_k z
  by_cases c : k = 26 + l
  · rw [up_eq c]
    unfold beg
    rw [u 5 (by omega), if_neg (by omega), if_neg (by omega), if_pos (by omega), up_eq (by omega)]
  · rw [up_k c]
    unfold beg
    rw [u 5 (by omega), u 4 (by omega)]
    by_cases c1 : k = 12
    · rw [if_pos c1, if_pos c1]
    rw [if_neg c1, if_neg c1]
    by_cases c2 : k = 13
    · rw [if_pos c2, if_pos c2]
    rw [if_neg c2, if_neg c2]
    by_cases c3 : 26 ≤ k ∧ k < 26 + S 5
    · rw [if_pos c3, if_pos c3, u _ (by omega)]
    rw [if_neg c3, if_neg c3]
    by_cases c4 : 46 ≤ k ∧ k < 46 + 3 * S 4
    · rw [if_pos c4, if_pos c4, u _ (by omega)]
    rw [if_neg c4, if_neg c4]
    by_cases c5 : 10 ≤ k ∧ k < 82
    · rw [if_pos c5, if_pos c5]
    rw [if_neg c5, if_neg c5, u _ (by omega)]
theorem beg_hole {S : Int → Int} {e n : Int} (h4 : S 4 ≤ 12) (h5 : S 5 ≤ 12) (l0 : 0 ≤ e) (l1 : e < S 4) : ∀ k, k < 88 → beg (ups S (90 + 3 * e) n) k = ups (beg S) (48 + 3 * e) n k := by
  intro k k1
  have u : ∀ j, j ≠ 90 + 3 * e → ups S (90 + 3 * e) n j = S j := fun j z => up_k z
  by_cases c : k = 48 + 3 * e
  · rw [up_eq c]
    unfold beg
    rw [u 5 (by omega), u 4 (by omega), if_neg (by omega), if_neg (by omega), if_neg (by omega), if_pos (by omega), up_eq (by omega)]
  · rw [up_k c]
    unfold beg
    rw [u 5 (by omega), u 4 (by omega)]
    by_cases c1 : k = 12
    · rw [if_pos c1, if_pos c1]
    rw [if_neg c1, if_neg c1]
    by_cases c2 : k = 13
    · rw [if_pos c2, if_pos c2]
    rw [if_neg c2, if_neg c2]
    by_cases c3 : 26 ≤ k ∧ k < 26 + S 5
    · rw [if_pos c3, if_pos c3, u _ (by omega)]
    rw [if_neg c3, if_neg c3]
    by_cases c4 : 46 ≤ k ∧ k < 46 + 3 * S 4
    · rw [if_pos c4, if_pos c4, u _ (by omega)]
    rw [if_neg c4, if_neg c4]
    by_cases c5 : 10 ≤ k ∧ k < 82
    · rw [if_pos c5, if_pos c5]
    rw [if_neg c5, if_neg c5, u _ (by omega)]
theorem row_wf {B l v : Int} {S : Int → Int} (H : Wf B S) (l0 : 0 ≤ l) (l1 : l < S 12) (v0 : 0 ≤ v) (v1 : v < cod S) : Wf B (ups S (26 + l) v) := by
  obtain ⟨F, E, ⟨W1, W2, W3⟩, t1, t2, t3⟩ := id H
  have k' : ∀ k, k ≠ 26 + l → ups S (26 + l) v k = S k := fun k z => up_k z
  refine H.st (fun k z => k' k (by omega)) (E.sg (fun k z => k' k (by omega))) ⟨?_, fun i i0 i1 => ?_, fun i i0 i1 => ?_⟩ ?_ ?_ ?_ ?_
  · rw [k' 12 (by omega)]
    exact W1
  · rw [k' 3 (by omega), k' (14 + i) (by omega), k' (20 + i) (by omega)]
    exact W2 i i0 i1
  · rw [k' 12 (by omega)] at i1
    rw [cod_sg (k' 0 (by omega)) (k' 1 (by omega)) (k' 2 (by omega))]
    by_cases c : i = l
    · rw [up_eq (by omega)]
      exact ⟨v0, v1⟩
    · rw [k' _ (by omega)]
      exact W3 i i0 i1
  · rw [k' 11 (by omega)]
    exact t1
  · rw [k' 11 (by omega), k' 10 (by omega)]
    exact t2
  · rw [k' 10 (by omega)]
    exact t3
  · intro z
    have := fr12 H (by omega)
    omega
theorem hole_wf {B e v : Int} {S : Int → Int} (H : Wf B S) (l0 : 0 ≤ e) (l1 : e < S 13) (v0 : 0 ≤ v) (v1 : v < S 3) : Wf B (ups S (48 + 3 * e) v) := by
  obtain ⟨F, ⟨E1, E2, E3⟩, W, t1, t2, t3⟩ := id H
  have k' : ∀ k, k ≠ 48 + 3 * e → ups S (48 + 3 * e) v k = S k := fun k z => up_k z
  refine H.st (fun k z => k' k (by omega)) ⟨?_, fun i i0 i1 => ?_, fun i j i0 i1 i2 => ?_⟩ (W.sg (fun k z => k' k (by omega))) ?_ ?_ ?_ ?_
  · rw [k' 13 (by omega)]
    exact E1
  · rw [k' 13 (by omega)] at i1
    rw [k' 1 (by omega), k' 2 (by omega), k' 3 (by omega), k' (46 + 3 * i) (by omega), k' (47 + 3 * i) (by omega)]
    have q := E2 i i0 i1
    by_cases c : i = e
    · rw [up_eq (by omega)]
      exact ⟨q.1, q.2.1, q.2.2.1, q.2.2.2.1, v0, v1⟩
    · rw [k' _ (by omega)]
      exact q
  · rw [k' 13 (by omega)] at i2
    rw [k' (46 + 3 * i) (by omega), k' (47 + 3 * i) (by omega), k' (46 + 3 * j) (by omega), k' (47 + 3 * j) (by omega)]
    exact E3 i j i0 i1 i2
  · rw [k' 11 (by omega)]
    exact t1
  · rw [k' 11 (by omega), k' 10 (by omega)]
    exact t2
  · rw [k' 10 (by omega)]
    exact t3
  · intro z
    rcases F with q | q
    · omega
    · omega
theorem WkR.urow {h : MH} {w t v : Int} {S : Int → Int} (R : WkR h w S) (t0 : 0 ≤ t) (t1 : t < 20) : WkR (m_wr h (w + 5) t v) w (ups S (26 + t) v) := by
  obtain ⟨r1, r2, r3, ⟨r4, r4b⟩, r5, r6, r7⟩ := R
  refine ⟨?_, ?_, ?_, ⟨?_, fun e e0 e1 => ?_⟩, fun i i0 i1 => ?_, fun i i0 i1 => ?_, fun i i0 i1 => ?_⟩
  · rw [up_k (by omega)]
    simp (disch := omega) only [w32_id, rd_eq, rd_ne, cp_in, cp_out, lc_lt, lc_gt, lc_eq]
    exact r1
  · rw [up_k (by omega)]
    simp (disch := omega) only [w32_id, rd_eq, rd_ne, cp_in, cp_out, lc_lt, lc_gt, lc_eq]
    exact r2
  · rw [up_k (by omega)]
    simp (disch := omega) only [w32_id, rd_eq, rd_ne, cp_in, cp_out, lc_lt, lc_gt, lc_eq]
    exact r3
  · rw [up_k (by omega)]
    simp (disch := omega) only [w32_id, rd_eq, rd_ne, cp_in, cp_out, lc_lt, lc_gt, lc_eq]
    exact r4
  · rw [up_k (by omega)] at e1
    rw [up_k (by omega), up_k (by omega), up_k (by omega)]
    simp (disch := omega) only [w32_id, rd_eq, rd_ne, cp_in, cp_out, lc_lt, lc_gt, lc_eq]
    exact r4b e e0 e1
  · rw [up_k (by omega)]
    simp (disch := omega) only [w32_id, rd_eq, rd_ne, cp_in, cp_out, lc_lt, lc_gt, lc_eq]
    exact r5 i i0 i1
  · rw [up_k (by omega)]
    simp (disch := omega) only [w32_id, rd_eq, rd_ne, cp_in, cp_out, lc_lt, lc_gt, lc_eq]
    exact r6 i i0 i1
  · rw [up_k (by omega)] at i1
    by_cases c : i = t
    · rw [up_eq (by omega)]
      simp (disch := omega) only [w32_id, rd_eq, rd_ne, cp_in, cp_out, lc_lt, lc_gt, lc_eq]
    · rw [up_k (by omega)]
      simp (disch := omega) only [w32_id, rd_eq, rd_ne, cp_in, cp_out, lc_lt, lc_gt, lc_eq]
      exact r7 i i0 i1
theorem WkR.uhole {h : MH} {w t v : Int} {S : Int → Int} (R : WkR h w S) (t0 : 0 ≤ t) (n12 : S 12 ≤ 20) : WkR (m_wr h (w + 4) t v) w (ups S (48 + 3 * t) v) := by
  obtain ⟨r1, r2, r3, ⟨r4, r4b⟩, r5, r6, r7⟩ := R
  refine ⟨?_, ?_, ?_, ⟨?_, fun e e0 e1 => ?_⟩, fun i i0 i1 => ?_, fun i i0 i1 => ?_, fun i i0 i1 => ?_⟩
  · rw [up_k (by omega)]
    simp (disch := omega) only [w32_id, rd_eq, rd_ne, cp_in, cp_out, lc_lt, lc_gt, lc_eq]
    exact r1
  · rw [up_k (by omega)]
    simp (disch := omega) only [w32_id, rd_eq, rd_ne, cp_in, cp_out, lc_lt, lc_gt, lc_eq]
    exact r2
  · rw [up_k (by omega)]
    simp (disch := omega) only [w32_id, rd_eq, rd_ne, cp_in, cp_out, lc_lt, lc_gt, lc_eq]
    exact r3
  · rw [up_k (by omega)]
    simp (disch := omega) only [w32_id, rd_eq, rd_ne, cp_in, cp_out, lc_lt, lc_gt, lc_eq]
    exact r4
  · rw [up_k (by omega)] at e1
    obtain ⟨q1, q2, q3⟩ := r4b e e0 e1
    rw [up_k (k := 46 + 3 * e) (by omega), up_k (k := 47 + 3 * e) (by omega)]
    refine ⟨?_, ?_, ?_⟩
    · simp (disch := omega) only [w32_id, rd_eq, rd_ne, cp_in, cp_out, lc_lt, lc_gt, lc_eq]
      exact q1
    · simp (disch := omega) only [w32_id, rd_eq, rd_ne, cp_in, cp_out, lc_lt, lc_gt, lc_eq]
      exact q2
    · by_cases c : e = t
      · rw [up_eq (by omega)]
        simp (disch := omega) only [w32_id, rd_eq, rd_ne, cp_in, cp_out, lc_lt, lc_gt, lc_eq]
      · rw [up_k (by omega)]
        simp (disch := omega) only [w32_id, rd_eq, rd_ne, cp_in, cp_out, lc_lt, lc_gt, lc_eq]
        exact q3
  · rw [up_k (by omega)]
    simp (disch := omega) only [w32_id, rd_eq, rd_ne, cp_in, cp_out, lc_lt, lc_gt, lc_eq]
    exact r5 i i0 i1
  · rw [up_k (by omega)]
    simp (disch := omega) only [w32_id, rd_eq, rd_ne, cp_in, cp_out, lc_lt, lc_gt, lc_eq]
    exact r6 i i0 i1
  · rw [up_k (by omega)] at i1
    rw [up_k (by omega)]
    simp (disch := omega) only [w32_id, rd_eq, rd_ne, cp_in, cp_out, lc_lt, lc_gt, lc_eq]
    exact r7 i i0 i1
theorem Inv.b4 {h : MH} (H : Inv h) : 0 ≤ m_rd h 344 4 ∧ m_rd h 344 4 ≤ 12 ∧ 0 ≤ m_rd h 344 5 ∧ m_rd h 344 5 ≤ 12 := by
  obtain ⟨_, w1, w2, w3, w4, w5, w6, w7, w8, w9⟩ := H.2.2.2.1
  have a : beg (m_rd h 344) 13 = m_rd h 344 4 := by
    unfold beg
    rw [if_neg (by decide), if_pos rfl]
  have b : beg (m_rd h 344) 12 = m_rd h 344 5 := by
    unfold beg
    rw [if_pos rfl]
  have e1 := w2.2.1.1.1
  have e2 := w2.2.2.1.1.1
  omega
theorem beg_12 {S : Int → Int} : beg S 12 = S 5 := by
  unfold beg
  rw [if_pos rfl]
theorem beg_13 {S : Int → Int} : beg S 13 = S 4 := by
  unfold beg
  rw [if_neg (by decide), if_pos rfl]
/-- the runner begins as the text told it -/
theorem runBegin {h : MH} (H : Inv h) : ∃ h3, GX7_start 21 24 h = some h3 ∧ Fr RunC h h3 ∧ RuR h3 (beg (m_rd h 344)) := by
  obtain ⟨⟨d1, d2, d3, d4, d5, d6, d7⟩, w1, w2, w3, w4, w5, w6, w7⟩ := H.2.2.2.1
  have b4 := H.b4
  exact start_ok (a1 := 21) (a2 := 24) H.1 (ShR.sg (S := m_rd h 344) d1 (fun k z => beg_k (by omega) (by omega) (by omega))) d2 w2 (by decide) (by decide)
theorem Inv.nt {h : MH} (H : Inv h) : NtR h (m_rd h 344) := by
  obtain ⟨⟨d1, d2, d3, d4, d5, d6, d7⟩, w1, w2, w3, w4, w5, w6, w7⟩ := H.2.2.2.1
  exact ⟨d6, d7⟩
/-- a trial from the begin, the class: the copy, then what is put in -/
def RB (h0 h : MH) (S : Int → Int) : Prop := Fr RunC h0 h ∧ ShR h 311 S ∧ ChR h 311 315 S
theorem RB.st {h0 h h' : MH} {S : Int → Int} {P : Int → Int → Prop} (R : RB h0 h S) (F : Fr P h h') (n : ∀ a j, P a j → RunC a j ∧ a ≠ 298 ∧ a ≠ 306 ∧ (a < 311 ∨ 314 ≤ a)) : RB h0 h' S := by
  obtain ⟨a, b, c⟩ := R
  refine ⟨a.tr (F.wk (fun x j z => (n x j z).1)), b.cg (fun x j z1 z2 => F.rd (fun z => ?_)), c.cg F (fun x j z => ⟨(n x j z).2.1, (n x j z).2.2.1⟩)⟩
  have := n x j z
  omega
theorem RB.copy {h0 h : MH} (H : Inv h0) (R : RB h0 h (beg (m_rd h0 344))) : ∃ h1, GX10_copyFrom 314 24 h = some h1 ∧ RB h0 h1 (beg (m_rd h0 344)) ∧ WkR h1 314 (beg (m_rd h0 344)) := by
  obtain ⟨⟨d1, d2, d3, d4, d5, d6, d7⟩, w1, w2, w3, w4, w5, w6, w7⟩ := H.2.2.2.1
  obtain ⟨h1, e1, F1, R1⟩ := copy10 (t := 314) (a := 24) (by omega) (WkR.cg (h := h0) (h' := h) d2 (fun a j z1 z2 => R.1.rd (by unfold RunC; omega))) w2.2.2.1.1.2 w2.2.1.1.2
  exact ⟨h1, e1, R.st F1 (fun a j z => by unfold RunC; omega), R1⟩
theorem RB.agr {h0 h : MH} {r : Int} {o : WF} {T : Int → Int} (H : Inv h0) (R : RB h0 h (beg (m_rd h0 344))) (RW : RuR h T) (W : Wf 0 T) (e : ∀ k, 136 ≤ k → k < 167 → T k = m_rd h0 344 k) (e3 : T 3 = m_rd h0 344 3) (t0 : T 10 = 0) (Rw : RwC h0 r o) : ∃ x h', GX7_agrees 20 r h = some (x, h') ∧ RB h0 h' (beg (m_rd h0 344)) ∧ (x = 0 ∨ x = 1) ∧ (x = 1 ↔ alQ o T 0) := by
  obtain ⟨⟨d1, d2, d3, d4, d5, d6, d7⟩, w1, w2, w3, w4, w5, w6, w7⟩ := H.2.2.2.1
  obtain ⟨x, h', e', F', x01, xi⟩ := agrees_ok (o := o) RW W w3 (H.nt.cg R.1 (fun a j z => by unfold RunC at z; omega)) e e3 (by rw [R.1.2.1]; exact H.1.2.2 320 (by decide)) t0 (Rw.kr (RunC.kr R.1))
  exact ⟨x, h', e', R.st F' (fun a j z => by unfold StC at z; unfold RunC; omega), x01, xi⟩
/-- the runner with another row that has the same digits -/
theorem RB.ru {h0 h : MH} {S T : Int → Int} (R : RB h0 h S) (K0 : KK h0) (n13 : S 13 ≤ 12) (W : WkR h 314 T) (e : ∀ k, (0 ≤ k ∧ k < 4) ∨ (82 ≤ k ∧ k < 88) ∨ k = 13 → T k = S k) (ee : ∀ i, 0 ≤ i → i < S 13 → T (46 + 3 * i) = S (46 + 3 * i) ∧ T (47 + 3 * i) = S (47 + 3 * i)) : RuR h T := ⟨R.2.1.sg (fun k z => e k (by omega)), W, R.2.2.sg n13 (e 0 (by omega)) (e 1 (by omega)) (e 2 (by omega)) (e 13 (by omega)) ee, by rw [R.1.2.1]; exact K0.2.2 321 (by decide)⟩
noncomputable def sdP (o : WF) (S : Int → Int) (cell : Int) : Int → Bool := fun n => dec (alQ o (beg (ups S cell n)) 0)
/-- what is put in for one letter -/
theorem let_T {h0 : MH} {l n : Int} (H : Inv h0) (l0 : 0 ≤ l) (l1 : l < m_rd h0 344 5) (n0 : 0 ≤ n) (n1 : n < cod (m_rd h0 344)) : Wf 0 (beg (ups (m_rd h0 344) (124 + l) n)) ∧ (∀ k, 136 ≤ k → k < 167 → beg (ups (m_rd h0 344) (124 + l) n) k = m_rd h0 344 k) ∧ beg (ups (m_rd h0 344) (124 + l) n) 3 = m_rd h0 344 3 ∧ beg (ups (m_rd h0 344) (124 + l) n) 10 = 0 := by
  obtain ⟨_, w1, w2, w3, w4, w5, w6, w7⟩ := H.2.2.2.1
  have b4 := H.b4
  have bl := beg_let (S := m_rd h0 344) (n := n) b4.2.1 b4.2.2.2 l0 l1
  have u4 : ups (m_rd h0 344) (124 + l) n 4 = m_rd h0 344 4 := up_k (by omega)
  have u5 : ups (m_rd h0 344) (124 + l) n 5 = m_rd h0 344 5 := up_k (by omega)
  refine ⟨?_, fun k k0 k1 => ?_, ?_, ?_⟩
  · refine Wf.sg (row_wf (l := l) (v := n) w2 l0 (by rw [beg_12]; exact l1) n0 ?_) (fun k k0 k1 => bl k k1)
    rw [cod_sg (S := m_rd h0 344) (beg_k b4.2.1 b4.2.2.2 (by omega)) (beg_k b4.2.1 b4.2.2.2 (by omega)) (beg_k b4.2.1 b4.2.2.2 (by omega))]
    exact n1
  · rw [beg_k (by omega) (by omega) (by omega), up_k (by omega)]
  · rw [beg_k (by omega) (by omega) (by omega), up_k (by omega)]
  · exact beg_10 (by omega) (by omega)
theorem hol_T {h0 : MH} {l n : Int} (H : Inv h0) (l0 : 0 ≤ l) (l1 : l < m_rd h0 344 4) (n0 : 0 ≤ n) (n1 : n < m_rd h0 344 3) : Wf 0 (beg (ups (m_rd h0 344) (90 + 3 * l) n)) ∧ (∀ k, 136 ≤ k → k < 167 → beg (ups (m_rd h0 344) (90 + 3 * l) n) k = m_rd h0 344 k) ∧ beg (ups (m_rd h0 344) (90 + 3 * l) n) 3 = m_rd h0 344 3 ∧ beg (ups (m_rd h0 344) (90 + 3 * l) n) 10 = 0 := by
  obtain ⟨_, w1, w2, w3, w4, w5, w6, w7⟩ := H.2.2.2.1
  have b4 := H.b4
  have bl := beg_hole (S := m_rd h0 344) (n := n) b4.2.1 b4.2.2.2 l0 l1
  have u4 : ups (m_rd h0 344) (90 + 3 * l) n 4 = m_rd h0 344 4 := up_k (by omega)
  have u5 : ups (m_rd h0 344) (90 + 3 * l) n 5 = m_rd h0 344 5 := up_k (by omega)
  refine ⟨?_, fun k k0 k1 => ?_, ?_, ?_⟩
  · refine Wf.sg (hole_wf (e := l) (v := n) w2 l0 (by rw [beg_13]; exact l1) n0 ?_) (fun k k0 k1 => bl k k1)
    rw [beg_k b4.2.1 b4.2.2.2 (by omega)]
    exact n1
  · rw [beg_k (by omega) (by omega) (by omega), up_k (by omega)]
  · rw [beg_k (by omega) (by omega) (by omega), up_k (by omega)]
  · exact beg_10 (by omega) (by omega)
theorem sdC_L {h0 : MH} {l u r : Int} {o : WF} {K : Int → Int → MH → Option (Int × MH)} (H : Inv h0) (l0 : 0 ≤ l) (l1 : l < m_rd h0 344 5) (Rw : RwC h0 r o) (rf : ∀ g, Fr RunC h0 g → GX11_ruleInForce g = some (r, g)) : ∀ (m f : Nat) (a b v : Int) (h : MH), m < f → v + m = cod (m_rd h0 344) → 0 ≤ v → 0 ≤ a → a ≤ v → (b = -2 ∨ 0 ≤ b) → RB h0 h (beg (m_rd h0 344)) → ∃ h', GX11_said_L59 l u K f a b v h = K (a + cntF (sdP o (m_rd h0 344) (124 + l)) m v) (if b = -2 then leF (sdP o (m_rd h0 344) (124 + l)) m v else b) h' ∧ Fr RunC h0 h' := by
  have b4 := H.b4
  have cb := cod_b H.2.2.2.1.2.1.1
  obtain ⟨s1, s2, s3, s4, s5, s6⟩ := H.sh
  have w2 := H.2.2.2.1.2.2.1
  intro m
  induction m with
  | zero =>
    intro f a b v h hf hv v0 a0 a1 hb R
    obtain ⟨q, rfl⟩ : ∃ q, f = q + 1 := ⟨f - 1, by omega⟩
    conv => enter [1, h', 1, 1]; unfold GX11_said_L59
    rw [R.1.rd (x := 21) (j := 3) (by unfold RunC; omega), s4, if_neg (by omega), cntF_0, leF_0, Int.add_zero]
    refine ⟨h, ?_, R.1⟩
    congr 1
    by_cases c : b = -2
    · rw [if_pos c, c]
    · rw [if_neg c]
  | succ m ih =>
    intro f a b v h hf hv v0 a0 a1 hb R
    obtain ⟨q, rfl⟩ : ∃ q, f = q + 1 := ⟨f - 1, by omega⟩
    conv => enter [1, h', 1, 1]; unfold GX11_said_L59
    obtain ⟨h1, e1, R1, W1⟩ := R.copy H
    have F2 : Fr (fun x _ => x = 319) h1 (m_wr h1 319 l v) := Fr.wr Fr.rf rfl
    have R2 := R1.st F2 (fun x j z => by unfold RunC; omega)
    have bl := beg_let (S := m_rd h0 344) (n := v) b4.2.1 b4.2.2.2 l0 l1
    obtain ⟨t1, t2, t3, t4⟩ := let_T H l0 l1 v0 (show v < cod (m_rd h0 344) by omega)
    have W2 : WkR (m_wr h1 319 l v) 314 (beg (ups (m_rd h0 344) (124 + l) v)) := by
      refine (W1.urow (t := l) (v := v) l0 (by omega)).sg ?_ ?_ (fun k z1 z2 => bl k (by omega))
      · rw [up_k (by omega)]
        exact w2.2.2.1.1.2
      · rw [up_k (by omega)]
        exact w2.2.1.1.2
    have RU : RuR (m_wr h1 319 l v) (beg (ups (m_rd h0 344) (124 + l) v)) := R2.ru H.1 w2.2.1.1.2 W2 (fun k z => by rw [bl k (by omega), up_k (by omega)]) (fun i i0 i1 => by
      have := w2.2.1.1.2
      rw [bl _ (by omega), bl _ (by omega), up_k (by omega), up_k (by omega)]
      exact ⟨rfl, rfl⟩)
    obtain ⟨x, h4, e4, R4, x01, xi⟩ := R2.agr H RU t1 t2 t3 t4 Rw
    rw [R.1.rd (x := 21) (j := 3) (by unfold RunC; omega), s4, if_pos (by omega), e1, bv_some, gd_ib l0 (by omega), gd_nil, rf _ R2.1, bd_some, e4, bd_some, w32_id (x := v + 1) (by omega) (by omega), w32_id (x := a + 1) (by omega) (by omega)]
    by_cases c : x = 0
    · have pf : sdP o (m_rd h0 344) (124 + l) v = false := dec_f (fun z => by have := xi.2 z; omega)
      rw [if_pos c, cnt_f pf, le_f pf]
      exact ih q a b (v + 1) h4 (by omega) (by omega) (by omega) a0 (by omega) hb R4
    · have pt : sdP o (m_rd h0 344) (124 + l) v = true := dec_t (xi.1 (by omega))
      rw [if_neg c, cnt_t pt, le_t pt]
      by_cases c2 : b = -2
      · rw [if_pos c2, if_pos c2]
        obtain ⟨h', e', F'⟩ := ih q (a + 1) v (v + 1) h4 (by omega) (by omega) (by omega) (by omega) (by omega) (Or.inr v0) R4
        rw [if_neg (by omega), Int.add_assoc] at e'
        exact ⟨h', e', F'⟩
      · rw [if_neg c2, if_neg c2]
        obtain ⟨h', e', F'⟩ := ih q (a + 1) b (v + 1) h4 (by omega) (by omega) (by omega) (by omega) (by omega) hb R4
        rw [if_neg c2, Int.add_assoc] at e'
        exact ⟨h', e', F'⟩
/-! the reference -/
theorem band1 {x : Int} (hx : x = 0 ∨ x = 1) : m_band x 1 = x := by
  rcases hx with rfl | rfl <;> decide
theorem cbM_L {h0 : MH} {cell many u k : Int} {o : WF} {K : MH → Option MH} {S : Int → Int} (c0 : 88 ≤ cell) (c1 : cell < 136) (m1 : many ≤ 256) (b4 : 0 ≤ S 4 ∧ S 4 ≤ 12 ∧ 0 ≤ S 5 ∧ S 5 ≤ 12) (N : WfN S) (Ws : ∀ n, 0 ≤ n → n < many → Wf 0 (beg (ups S cell n))) (K354 : h0.2.1 354 = (4, 256)) (Rw : RwM h0 k o) : ∀ (m f : Nat) (v : Int) (h : MH), m < f → v + m = many → 0 ≤ v → Fr (fun a j => BkP a j ∧ ¬ (a = 334 ∧ j = 21) ∧ a ≠ 350) h0 h → m_rd h 334 21 = k → (∀ i, ¬ (10 ≤ i ∧ i < 82) → i ≠ cell → m_rd h 344 i = S i) → (∀ n, 0 ≤ n → n < v → (m_rd h 354 n = 0 ∨ m_rd h 354 n = 1) ∧ (m_rd h 354 n = 1 ↔ alQ o (beg (ups S cell n)) 0)) → ∃ h', GX12_fillsCanBe_L14 cell many u K f v h = K h' ∧ Fr (fun a j => BkP a j ∧ ¬ (a = 334 ∧ j = 21) ∧ a ≠ 350) h0 h' ∧ (∀ i, ¬ (10 ≤ i ∧ i < 82) → i ≠ cell → m_rd h' 344 i = S i) ∧ ∀ n, 0 ≤ n → n < many → (m_rd h' 354 n = 0 ∨ m_rd h' 354 n = 1) ∧ (m_rd h' 354 n = 1 ↔ alQ o (beg (ups S cell n)) 0) := by
  intro m
  induction m with
  | zero =>
    intro f v h hf hv v0 F hk out done
    obtain ⟨q, rfl⟩ : ∃ q, f = q + 1 := ⟨f - 1, by omega⟩
    conv => enter [1, h', 1, 1]; unfold GX12_fillsCanBe_L14
    rw [if_neg (by omega)]
    exact ⟨h, rfl, F, out, fun n n0 n1 => done n n0 (by omega)⟩
  | succ m ih =>
    intro f v h hf hv v0 F hk out done
    obtain ⟨q, rfl⟩ : ∃ q, f = q + 1 := ⟨f - 1, by omega⟩
    conv => enter [1, h', 1, 1]; unfold GX12_fillsCanBe_L14
    have u4 : ups S cell v 4 = S 4 := up_k (by omega)
    have u5 : ups S cell v 5 = S 5 := up_k (by omega)
    have X : ∀ i, ¬ (10 ≤ i ∧ i < 82) → m_rd (m_wr h 344 cell v) 344 i = ups S cell v i := fun i z => by
      by_cases c : i = cell
      · rw [rd_eq rfl c, up_eq c]
      · rw [rd_ne (Or.inr c), up_k c, out i z c]
    obtain ⟨h1, e1, F1, s1⟩ := begins_ok (h := m_wr h 344 cell v) rfl (by rw [X 4 (by omega)]; omega) (by rw [X 4 (by omega)]; omega) (by rw [X 5 (by omega)]; omega) (by rw [X 5 (by omega)]; omega)
    rw [beg_out (S := ups S cell v) (by omega) (by omega) X] at s1
    have Fh1 : Fr (fun a j => BkP a j ∧ ¬ (a = 334 ∧ j = 21) ∧ a ≠ 350) h0 h1 := (F.wr (by unfold BkP; omega)).tr (F1.wk (fun a j z => by unfold BkP; omega))
    have kr1 : KeepR h0 h1 := Fh1.kr (fun a j z => by unfold RdR; unfold BkP Scr at z; omega)
    have bk : ∀ i, i < 10 ∨ 82 ≤ i → beg (ups S cell v) i = ups S cell v i := fun i z => beg_k (by omega) (by omega) z
    have NT : WfN (beg (ups S cell v)) := N.sg (by rw [bk 3 (by omega), up_k (by omega)]) (fun i z1 z2 => by rw [bk i (by omega), up_k (by omega)])
    obtain ⟨y, h2, e2, y01, yi, F2, s2, _, _⟩ := areAll_ok (r := 0) (t := -1) (k := k) (o := o) (by omega) (by omega) s1 (Ws v v0 (by omega)) NT (Rw.kr kr1) (by rw [F1.rd (by omega), rd_ne (by omega)]; exact hk)
    have Fh2 : Fr (fun a j => BkP a j ∧ ¬ (a = 334 ∧ j = 21) ∧ a ≠ 350) h0 h2 := Fh1.tr (F2.wk (fun a j z => by unfold AlM StM at z; unfold BkP Scr; omega))
    have k2 : m_kd h2 354 = 4 := by
      unfold m_kd
      rw [Fh2.2.1, K354]
    have bst : m_bst h2 354 y = y := by
      unfold m_bst
      rw [k2, if_neg (by decide), band1 y01]
    rw [if_pos (by omega), gd_ib (by omega) (by omega), gd_nil, e1, bv_some, e2, bd_some, gd_ib (by omega) (by omega), gd_nil, w32_id (x := v + 1) (by omega) (by omega), bst]
    refine ih q (v + 1) (m_wr h2 354 v y) (by omega) (by omega) (by omega) (Fh2.wr (by unfold BkP Scr; omega)) ?_ (fun i z zc => ?_) (fun n n0 n1 => ?_)
    · rw [rd_ne (by omega), F2.rd (by unfold AlM StM; omega), F1.rd (by omega), rd_ne (by omega)]
      exact hk
    · rw [rd_ne (by omega), s2, it_k 61 0 _ (Ws v v0 (by omega)) i (by omega), bk i (by omega), up_k zc]
    · by_cases c : n = v
      · rw [rd_eq rfl c, c]
        exact ⟨y01, yi⟩
      · rw [rd_ne (by omega), F2.rd (by unfold AlM StM; omega), F1.rd (by omega), rd_ne (by omega)]
        exact done n n0 (by omega)
theorem canBe_ok {h : MH} {cell many k : Int} {o : WF} {S : Int → Int} (sg : m_rd h 344 = S) (c0 : 88 ≤ cell) (c1 : cell < 136) (m0 : 0 ≤ many) (m1 : many ≤ 256) (b4 : 0 ≤ S 4 ∧ S 4 ≤ 12 ∧ 0 ≤ S 5 ∧ S 5 ≤ 12) (N : WfN S) (Ws : ∀ n, 0 ≤ n → n < many → Wf 0 (beg (ups S cell n))) (K354 : h.2.1 354 = (4, 256)) (Rw : RwM h k o) (hk : m_rd h 334 21 = k) : ∃ h', GX12_fillsCanBe cell many h = some h' ∧ Fr Scr h h' ∧ ∀ n, 0 ≤ n → n < many → (m_rd h' 354 n = 0 ∨ m_rd h' 354 n = 1) ∧ (m_rd h' 354 n = 1 ↔ alQ o (beg (ups S cell n)) 0) := by
  obtain ⟨g2, x2, G2, kp⟩ := keeps_ok (h := h)
  have s2 : m_rd g2 344 = S := by
    rw [← sg]
    exact funext fun j => G2.rd (by omega)
  unfold GX12_fillsCanBe
  rw [gd_ib (by omega) (by omega), gd_nil, x2, bv_some, sg]
  obtain ⟨h3, e3, F3, out, done⟩ := cbM_L (h0 := g2) (cell := cell) (many := many) (u := S cell) (k := k) (o := o) (K := fun h2 => gd [IB cell 167] (bv (GX12_laysBack (m_wr h2 344 cell (S cell))) (fun h3 => some h3))) c0 c1 m1 b4 N Ws (by rw [G2.2.1]; exact K354) (Rw.kr (G2.kr (fun a j z => by unfold RdR; omega))) many.toNat FU 0 g2 (by unfold FU; omega) (by omega) (by omega) Fr.rf (by rw [G2.rd (by omega)]; exact hk) (fun i z zc => by rw [s2]) (fun n n0 n1 => by omega)
  obtain ⟨g4, x4, G4, s4⟩ := laysBack_ok (h := m_wr h3 344 cell (S cell)) (S := S) (fun i i0 i1 => by rw [rd_ne (by omega), F3.rd (by omega), kp i i0 i1, sg]) (fun j z => by
    by_cases c : j = cell
    · rw [rd_eq rfl c, c]
    · rw [rd_ne (Or.inr c)]
      exact out j z c)
  rw [e3, gd_ib (by omega) (by omega), gd_nil, x4, bv_some]
  refine ⟨g4, rfl, Fr.back ?_ (by rw [s4, sg]) ?_, fun n n0 n1 => ?_⟩
  · exact (((G2.wk (fun a j z => by unfold BkP Scr; omega)).tr (F3.wk (fun a j z => z.1))).wr (Or.inr (Or.inl rfl))).tr (G4.wk (fun a j z => Or.inr (Or.inl z.1)))
  · rw [G4.rd (by omega), rd_ne (by omega), F3.rd (by omega), G2.rd (by omega)]
  · rw [G4.rd (by omega), rd_ne (by omega)]
    exact done n n0 n1
theorem sdM_L {h : MH} {p : Int → Bool} {u N : Int} {K : Int → Int → MH → Option (Int × MH)} (N1 : N ≤ 256) (hp : ∀ n, 0 ≤ n → n < N → (m_rd h 354 n = 0 ↔ p n = false)) : ∀ (n m f : Nat), n < f → (n : Int) + m = N → GX12_said_L52 u K f (cntF p m n) (leF p m n) ((n : Int) - 1) h = K (cntF p (n + m) 0) (leF p (n + m) 0) h := by
  intro n
  induction n with
  | zero =>
    intro m f hf hv
    obtain ⟨q, rfl⟩ : ∃ q, f = q + 1 := ⟨f - 1, by omega⟩
    conv => lhs; unfold GX12_said_L52
    rw [if_pos (by omega), show 0 + m = m by omega]
    rfl
  | succ n ih =>
    intro m f hf hv
    obtain ⟨q, rfl⟩ : ∃ q, f = q + 1 := ⟨f - 1, by omega⟩
    have i := ih (m + 1) q (by omega) (by omega)
    have cm := cntF_b (p := p) m ((n + 1 : Nat) : Int)
    have e1 : ((n + 1 : Nat) : Int) = (n : Int) + 1 := by omega
    rw [e1] at cm
    conv => lhs; unfold GX12_said_L52
    rw [e1, show (n : Int) + 1 - 1 = (n : Int) by omega, if_neg (by omega), gd_ib (by omega) (by omega), gd_nil, w32_id (x := (n : Int) + (-1)) (by omega) (by omega), w32_id (x := cntF p m ((n : Int) + 1) + 1) (by omega) (by omega), show n + 1 + m = n + (m + 1) by omega, ← i, show (n : Int) + -1 = (n : Int) - 1 by omega]
    have q' := hp n (by omega) (by omega)
    cases c : p n with
    | false =>
      rw [if_pos (q'.2 c), cnt_f c, le_f c]
    | true =>
      rw [if_neg (fun z => by have := q'.1 z; rw [c] at this; exact absurd this (by decide)), cnt_t c, le_t c, Int.add_comm 1]
theorem sd_p {h : MH} {o : WF} {S : Int → Int} {cell n : Int} (a : m_rd h 354 n = 0 ∨ m_rd h 354 n = 1) (b : m_rd h 354 n = 1 ↔ alQ o (beg (ups S cell n)) 0) : m_rd h 354 n = 0 ↔ sdP o S cell n = false := by
  unfold sdP
  by_cases c : alQ o (beg (ups S cell n)) 0
  · rw [dec_t c]
    have := b.2 c
    exact ⟨fun z => by omega, fun z => absurd z (by decide)⟩
  · rw [dec_f c]
    exact ⟨fun _ => rfl, fun _ => a.elim id (fun z => absurd (b.1 z) c)⟩
theorem sdM_ok {h : MH} {p : Int → Bool} {u N : Int} (N0 : 0 ≤ N) (N1 : N ≤ 256) (hp : ∀ n, 0 ≤ n → n < N → (m_rd h 354 n = 0 ↔ p n = false)) : GX12_said_L52 u (fun w8 w9 h10 => if u = 0 then some (w8, h10) else some (w9, h10)) FU 0 (-2) (N - 1) h = if u = 0 then some (cntF p N.toNat 0, h) else some (leF p N.toNat 0, h) := by
  have L := sdM_L (u := u) (K := fun w8 w9 h10 => if u = 0 then some (w8, h10) else some (w9, h10)) N1 hp N.toNat 0 FU (by unfold FU; omega) (by omega)
  rw [Nat.add_zero, show ((N.toNat : Nat) : Int) = N by omega, cntF_0, leF_0] at L
  exact L
theorem c_said (l u : Int) : Call (GX11_said l u) (GX12_said l u) := by
  intro h H
  obtain ⟨⟨d1, d2, d3, d4, d5, d6, d7⟩, w1, w2, w3, w4, w5, w6, w7⟩ := H.2.2.2.1
  have b4 := H.b4
  have cb := cod_b w1.1
  have k24 : m_rd h 24 1 = m_rd h 344 5 := by
    have := d2.2.2.1
    rw [beg_12] at this
    exact this
  unfold GX11_said
  rw [k24]
  by_cases l0 : l < 0
  · refine wi_ip l0 (wi_ret ?_)
    unfold GX12_said
    exact wi_ip l0 (wi_ret ⟨rfl, H⟩)
  refine wi_in l0 ?_
  by_cases l1 : l < m_rd h 344 5
  · refine wi_ip l1 ?_
    by_cases u0 : u < 0
    · refine wi_ip u0 (wi_ret ?_)
      unfold GX12_said
      exact wi_in l0 (wi_ip l1 (wi_be in_ok (wi_ip (by rw [t01]; omega) (wi_ret ⟨rfl, H⟩))))
    refine wi_in u0 ?_
    by_cases u1 : 1 < u
    · refine wi_ip u1 (wi_ret ?_)
      unfold GX12_said
      exact wi_in l0 (wi_ip l1 (wi_be in_ok (wi_ip (by rw [t01]; omega) (wi_ret ⟨rfl, H⟩))))
    refine wi_in u1 ?_
    obtain ⟨h3, e3, F3, R3⟩ := runBegin H
    obtain ⟨r, o, rf, Rw, RwM⟩ := force_W H
    obtain ⟨h9, e9, F9⟩ := sdC_L (l := l) (u := u) (r := r) (o := o) (K := fun w2 w3 h4 => if u = 0 then some (w2, h4) else some (w3, h4)) H (by omega) l1 Rw (fun g F => rf g (RunC.kr F) (F.rd (by unfold RunC; omega))) (cod (m_rd h 344)).toNat FU 0 (-2) 0 h3 (by unfold FU; omega) (by omega) (by omega) (by omega) (by omega) (Or.inl rfl) ⟨F3, R3.1, R3.2.2.1⟩
    rw [if_pos rfl, Int.zero_add] at e9
    refine wi_bw e3 (wi_rw e9 ?_)
    have s9 : m_rd h9 344 = m_rd h 344 := funext fun j => F9.rd (by unfold RunC; omega)
    have I9 : Inv h9 := H.scr (F9.wk (fun a j z => z.scr))
    obtain ⟨g5, x5, G5, done⟩ := canBe_ok (h := h9) (cell := 124 + l) (many := cod (m_rd h 344)) (k := m_rd h 334 21) (o := o) s9 (by omega) (by omega) (by omega) (by omega) b4 w3 (fun n n0 n1 => (let_T H (by omega) l1 n0 n1).1) (I9.1.2.2 354 (by decide)) (RwM.kr (RunC.kr F9)) (F9.rd (by unfold RunC; omega))
    have I5 : Inv g5 := I9.scr G5
    have s5 : m_rd g5 344 = m_rd h 344 := by
      rw [← s9]
      exact funext fun j => G5.rd (by unfold Scr; omega)
    have mm := sdM_ok (h := g5) (u := u) (p := sdP o (m_rd h 344) (124 + l)) (N := cod (m_rd h 344)) (by omega) (by omega) (fun n n0 n1 => sd_p (done n n0 n1).1 (done n n0 n1).2)
    have mod : ∀ v, v = (if u = 0 then cntF (sdP o (m_rd h 344) (124 + l)) (cod (m_rd h 344)).toNat 0 else leF (sdP o (m_rd h 344) (124 + l)) (cod (m_rd h 344)).toNat 0) → Wi (GX12_said l u h9) (fun w h2 => v = w ∧ Inv h2) := by
      intro v hv
      unfold GX12_said
      refine wi_in l0 (wi_ip (by rw [s9]; exact l1) (wi_be in_ok (wi_in (by rw [t01]; omega) (wi_be (codesMany_ok (by rw [s9]; exact w1.1)) ?_))))
      rw [s9, w32_id (x := 124 + l) (by omega) (by omega)]
      refine wi_bw x5 (wi_be (codesMany_ok (by rw [s5]; exact w1.1)) ?_)
      rw [s5, w32_id (x := cod (m_rd h 344) - 1) (by omega) (by omega)]
      refine wi_rw mm ?_
      refine wi_it (fun c => wi_ret ⟨?_, I5⟩) (fun c => wi_ret ⟨?_, I5⟩)
      · rw [hv, if_pos c]
      · rw [hv, if_neg c]
    refine wi_it (fun c => wi_ret (mod _ ?_)) (fun c => wi_ret (mod _ ?_))
    · rw [if_pos c]
    · rw [if_neg c]
  · refine wi_in l1 (wi_ret ?_)
    unfold GX12_said
    exact wi_in l0 (wi_in l1 (wi_ret ⟨rfl, H⟩))
/-! sent -/
theorem bor_r {x y : Int} : -2147483648 ≤ m_bor x y ∧ m_bor x y ≤ 2147483647 := ⟨Int32.le_toInt _, Int32.toInt_le _⟩
theorem bor_0 {x : Int} (h1 : -2147483648 ≤ x) (h2 : x ≤ 2147483647) : m_bor x 0 = x := by
  unfold m_bor
  have e : Int32.ofInt x ||| Int32.ofInt 0 = Int32.ofInt x := by
    show Int32.ofInt x ||| 0 = Int32.ofInt x
    simp
  rw [e, i32_bm, w32_id h1 h2]
def seF (p : Int → Bool) : Nat → Int → Int → Int
  | 0, _, b => b
  | m + 1, v, b => seF p m (v + 1) (if p v = true then m_bor b (m_shl 1 v) else b)
theorem seC_L {h0 : MH} {e r : Int} {o : WF} {K : Int → MH → Option (Int × MH)} (H : Inv h0) (l0 : 0 ≤ e) (l1 : e < m_rd h0 344 4) (Rw : RwC h0 r o) (rf : ∀ g, Fr RunC h0 g → GX11_ruleInForce g = some (r, g)) : ∀ (m f : Nat) (b v : Int) (h : MH), m < f → v + m = m_rd h0 344 3 → 0 ≤ v → RB h0 h (beg (m_rd h0 344)) → ∃ h', GX11_sent_L44 e K f b v h = K (seF (sdP o (m_rd h0 344) (90 + 3 * e)) m v b) h' ∧ Fr RunC h0 h' := by
  have b4 := H.b4
  have fb := H.2.2.2.1.2.1.1.b
  obtain ⟨s1, s2, s3, s4, s5, s6⟩ := H.sh
  have w2 := H.2.2.2.1.2.2.1
  intro m
  induction m with
  | zero =>
    intro f b v h hf hv v0 R
    obtain ⟨q, rfl⟩ : ∃ q, f = q + 1 := ⟨f - 1, by omega⟩
    conv => enter [1, h', 1, 1]; unfold GX11_sent_L44
    rw [R.1.rd (x := 21) (j := 2) (by unfold RunC; omega), s3, if_neg (by omega)]
    exact ⟨h, rfl, R.1⟩
  | succ m ih =>
    intro f b v h hf hv v0 R
    obtain ⟨q, rfl⟩ : ∃ q, f = q + 1 := ⟨f - 1, by omega⟩
    conv => enter [1, h', 1, 1]; unfold GX11_sent_L44
    obtain ⟨h1, e1, R1, W1⟩ := R.copy H
    have F2 : Fr (fun x _ => x = 318) h1 (m_wr h1 318 e v) := Fr.wr Fr.rf rfl
    have R2 := R1.st F2 (fun x j z => by unfold RunC; omega)
    have bl := beg_hole (S := m_rd h0 344) (n := v) b4.2.1 b4.2.2.2 l0 l1
    obtain ⟨t1, t2, t3, t4⟩ := hol_T H l0 l1 v0 (show v < m_rd h0 344 3 by omega)
    have W2 : WkR (m_wr h1 318 e v) 314 (beg (ups (m_rd h0 344) (90 + 3 * e) v)) := by
      refine (W1.uhole (t := e) (v := v) l0 w2.2.2.1.1.2).sg ?_ ?_ (fun k z1 z2 => bl k (by omega))
      · rw [up_k (by omega)]
        exact w2.2.2.1.1.2
      · rw [up_k (by omega)]
        exact w2.2.1.1.2
    have RU : RuR (m_wr h1 318 e v) (beg (ups (m_rd h0 344) (90 + 3 * e) v)) := R2.ru H.1 w2.2.1.1.2 W2 (fun k z => by rw [bl k (by omega), up_k (by omega)]) (fun i i0 i1 => by
      have := w2.2.1.1.2
      rw [bl _ (by omega), bl _ (by omega), up_k (by omega), up_k (by omega)]
      exact ⟨rfl, rfl⟩)
    obtain ⟨x, h4, e4, R4, x01, xi⟩ := R2.agr H RU t1 t2 t3 t4 Rw
    rw [R.1.rd (x := 21) (j := 2) (by unfold RunC; omega), s3, if_pos (by omega), e1, bv_some, gd_ib l0 (by omega), gd_nil, rf _ R2.1, bd_some, e4, bd_some, w32_id (x := v + 1) (by omega) (by omega)]
    by_cases c : x = 0
    · have pf : sdP o (m_rd h0 344) (90 + 3 * e) v = false := dec_f (fun z => by have := xi.2 z; omega)
      rw [if_pos c, show seF (sdP o (m_rd h0 344) (90 + 3 * e)) (m + 1) v b = seF (sdP o (m_rd h0 344) (90 + 3 * e)) m (v + 1) b by show seF _ m (v + 1) (if sdP o (m_rd h0 344) (90 + 3 * e) v = true then _ else b) = _; rw [if_neg (by rw [pf]; decide)]]
      exact ih q b (v + 1) h4 (by omega) (by omega) (by omega) R4
    · have pt : sdP o (m_rd h0 344) (90 + 3 * e) v = true := dec_t (xi.1 (by omega))
      rw [if_neg c, show seF (sdP o (m_rd h0 344) (90 + 3 * e)) (m + 1) v b = seF (sdP o (m_rd h0 344) (90 + 3 * e)) m (v + 1) (m_bor b (m_shl 1 v)) by show seF _ m (v + 1) (if sdP o (m_rd h0 344) (90 + 3 * e) v = true then _ else b) = _; rw [if_pos pt]]
      exact ih q _ (v + 1) h4 (by omega) (by omega) (by omega) R4
theorem seM_L {h : MH} {p : Int → Bool} {N : Int} {K : Int → MH → Option (Int × MH)} (hN : m_rd h 344 3 = N) (N1 : N ≤ 6) (hp : ∀ n, 0 ≤ n → n < N → (m_rd h 354 n = 0 ↔ p n = false)) : ∀ (m f : Nat) (b v : Int), m < f → v + m = N → 0 ≤ v → -2147483648 ≤ b → b ≤ 2147483647 → GX12_sent_L38 K f b v h = K (seF p m v b) h := by
  intro m
  induction m with
  | zero =>
    intro f b v hf hv v0 b0 b1
    obtain ⟨q, rfl⟩ : ∃ q, f = q + 1 := ⟨f - 1, by omega⟩
    conv => lhs; unfold GX12_sent_L38
    rw [hN, if_neg (by omega)]
    rfl
  | succ m ih =>
    intro f b v hf hv v0 b0 b1
    obtain ⟨q, rfl⟩ : ∃ q, f = q + 1 := ⟨f - 1, by omega⟩
    conv => lhs; unfold GX12_sent_L38
    rw [hN, if_pos (by omega), gd_ib (by omega) (by omega), gd_nil, w32_id (x := v + 1) (by omega) (by omega), bor_0 b0 b1]
    have q' := hp v v0 (by omega)
    show _ = K (seF p m (v + 1) (if p v = true then m_bor b (m_shl 1 v) else b)) h
    cases c : p v with
    | false =>
      rw [if_pos (q'.2 c), if_neg (by decide)]
      exact ih q b (v + 1) (by omega) (by omega) (by omega) b0 b1
    | true =>
      rw [if_neg (fun z => by have := q'.1 z; rw [c] at this; exact absurd this (by decide)), if_pos rfl]
      exact ih q _ (v + 1) (by omega) (by omega) (by omega) bor_r.1 bor_r.2
theorem c_sent (e : Int) : Call (GX11_sent e) (GX12_sent e) := by
  intro h H
  obtain ⟨⟨d1, d2, d3, d4, d5, d6, d7⟩, w1, w2, w3, w4, w5, w6, w7⟩ := H.2.2.2.1
  have b4 := H.b4
  have fb := w1.1.b
  have has := has_ok (t := 25) (c := e) (S := beg (m_rd h 344)) d2.2.2.2.1
  rw [beg_13] at has
  unfold GX11_sent
  refine wi_be has ?_
  by_cases c : 0 ≤ e ∧ e < m_rd h 344 4
  · refine wi_in (by rw [t01]; exact fun z => z c) ?_
    obtain ⟨h3, e3, F3, R3⟩ := runBegin H
    obtain ⟨r, o, rf, Rw, RwM⟩ := force_W H
    obtain ⟨h9, e9, F9⟩ := seC_L (e := e) (r := r) (o := o) (K := fun w4 h5 => some (w4, h5)) H c.1 c.2 Rw (fun g F => rf g (RunC.kr F) (F.rd (by unfold RunC; omega))) (m_rd h 344 3).toNat FU 0 0 h3 (by unfold FU; omega) (by omega) (by omega) ⟨F3, R3.1, R3.2.2.1⟩
    refine wi_bw e3 (wi_rw e9 (wi_ret ?_))
    have s9 : m_rd h9 344 = m_rd h 344 := funext fun j => F9.rd (by unfold RunC; omega)
    have I9 : Inv h9 := H.scr (F9.wk (fun a j z => z.scr))
    obtain ⟨g5, x5, G5, done⟩ := canBe_ok (h := h9) (cell := 90 + 3 * e) (many := m_rd h 344 3) (k := m_rd h 334 21) (o := o) s9 (by omega) (by omega) (by omega) (by omega) b4 w3 (fun n n0 n1 => (hol_T H c.1 c.2 n0 n1).1) (I9.1.2.2 354 (by decide)) (RwM.kr (RunC.kr F9)) (F9.rd (by unfold RunC; omega))
    have I5 : Inv g5 := I9.scr G5
    have s5 : m_rd g5 344 = m_rd h 344 := by
      rw [← s9]
      exact funext fun j => G5.rd (by unfold Scr; omega)
    have mm := seM_L (h := g5) (K := fun w2 h3 => some (w2, h3)) (p := sdP o (m_rd h 344) (90 + 3 * e)) (N := m_rd h 344 3) (by rw [s5]) (by omega) (fun n n0 n1 => sd_p (done n n0 n1).1 (done n n0 n1).2) (m_rd h 344 3).toNat FU 0 0 (by unfold FU; omega) (by omega) (by omega) (by omega) (by omega)
    unfold GX12_sent
    rw [s9, w32_id (x := 3 * e) (by omega) (by omega), w32_id (x := 88 + 3 * e) (by omega) (by omega), w32_id (x := 88 + 3 * e + 2) (by omega) (by omega), show 88 + 3 * e + 2 = 90 + 3 * e by omega]
    exact wi_in (by omega) (wi_ip c.2 (wi_bw x5 (wi_rw mm (wi_ret ⟨rfl, I5⟩))))
  · refine wi_ip (by rw [t01]; exact c) (wi_ret ?_)
    unfold GX12_sent
    by_cases c0 : e < 0
    · exact wi_ip c0 (wi_ret ⟨rfl, H⟩)
    · exact wi_in c0 (wi_in (by omega) (wi_ret ⟨rfl, H⟩))
