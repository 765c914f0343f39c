/-! POWERS -/
theorem pw_0 {b : Int} : pw b 0 = 1 := by
  show b ^ (0 : Int).toNat = 1
  exact Int.pow_zero b
theorem pw_s {b n : Int} (h : 0 ≤ n) : pw b (n + 1) = pw b n * b := by
  unfold pw
  rw [show (n + 1).toNat = n.toNat + 1 by omega]
  exact Int.pow_succ ..
theorem pw_b {b n : Int} (b0 : 0 ≤ b) (b1 : b ≤ 4) (n0 : 0 ≤ n) (n1 : n ≤ 5) : 0 ≤ pw b n ∧ pw b n ≤ 1024 := by
  have hb : b = 0 ∨ b = 1 ∨ b = 2 ∨ b = 3 ∨ b = 4 := by omega
  have hn : n = 0 ∨ n = 1 ∨ n = 2 ∨ n = 3 ∨ n = 4 ∨ n = 5 := by omega
  rcases hb with rfl | rfl | rfl | rfl | rfl <;> rcases hn with rfl | rfl | rfl | rfl | rfl | rfl <;> decide
theorem pw_p {b n : Int} (b0 : 1 ≤ b) : 1 ≤ pw b n := by
  unfold pw
  exact Int.pow_pos (by omega)
theorem power_L {b : Int} {K : Int → MH → Option (Int × MH)} {h : MH} {N : Nat} (b0 : 0 ≤ b) (b1 : b ≤ 4) (hN : N ≤ 5) : ∀ (m f v : Nat), m < f → v + m = N → GX12_power_L4 b N K f (pw b v) v h = K (pw b N) h := by
  intro m
  induction m with
  | zero =>
    intro f v hf hv
    obtain ⟨g, rfl⟩ : ∃ g, f = g + 1 := ⟨f - 1, by omega⟩
    conv => lhs; unfold GX12_power_L4
    rw [if_neg (by omega), show v = N by omega]
  | succ m ih =>
    intro f v hf hv
    obtain ⟨g, rfl⟩ : ∃ g, f = g + 1 := ⟨f - 1, by omega⟩
    conv => lhs; unfold GX12_power_L4
    have q := pw_b (n := (v : Int) + 1) b0 b1 (by omega) (by omega)
    rw [pw_s (by omega)] at q
    rw [if_pos (by omega), w32_id (x := pw b v * b) (by omega) (by omega), w32_id (x := (v : Int) + 1) (by omega) (by omega), ← pw_s (by omega)]
    exact ih g (v + 1) (by omega) (by omega)
theorem power_ok {b n : Int} {h : MH} (b0 : 0 ≤ b) (b1 : b ≤ 4) (n0 : 0 ≤ n) (n1 : n ≤ 5) : GX12_power b n h = some (pw b n, h) := by
  obtain ⟨N, hN⟩ : ∃ N : Nat, n = N := ⟨n.toNat, by omega⟩
  subst hN
  unfold GX12_power
  have q := power_L (K := fun w1 h2 => some (w1, h2)) (h := h) b0 b1 (show N ≤ 5 by omega) N FU 0 (by unfold FU; omega) (by omega)
  rw [show ((0 : Nat) : Int) = 0 from rfl, pw_0] at q
  exact q
theorem isFrame_ok {h : MH} : GX12_isFrame h = some (if m_rd h 344 0 = 1 then 1 else 0, h) := by
  unfold GX12_isFrame
  split <;> rfl
theorem codesMany_ok {h : MH} (F : WfF (m_rd h 344)) : GX12_codesMany h = some (cod (m_rd h 344), h) := by
  have b := F.b
  unfold GX12_codesMany cod
  rw [isFrame_ok, bd_some]
  by_cases c : m_rd h 344 0 = 1
  · rw [if_pos c, if_neg (by decide), power_ok (by omega) (by omega) (by omega) (by omega), bd_some, if_pos c]
  · rw [if_neg c, if_pos rfl, if_neg c]
theorem cod_b {S : Int → Int} (F : WfF S) : 0 ≤ cod S ∧ cod S ≤ 256 ∧ (0 < cod S ↔ S 0 = 1) := by
  unfold cod
  rcases F with q | q
  · obtain ⟨q1, q2, q3, q4, q5, _⟩ := q
    rw [if_pos q1]
    have p := pw_p (b := S 1) (n := S 2) (by omega)
    have hb : S 1 = 2 ∨ S 1 = 3 ∨ S 1 = 4 := by omega
    have hn : S 2 = 1 ∨ S 2 = 2 ∨ S 2 = 3 ∨ S 2 = 4 := by omega
    have r : pw (S 1) (S 2) ≤ 256 := by
      rcases hb with e | e | e <;> rw [e] <;> rcases hn with e | e | e | e <;> rw [e] <;> decide
    omega
  · rw [if_neg (by omega)]
    omega
theorem isCode_ok {c : Int} {h : MH} (F : WfF (m_rd h 344)) : GX12_isCode c h = some (if 0 ≤ c ∧ c < cod (m_rd h 344) then 1 else 0, h) := by
  unfold GX12_isCode
  rw [codesMany_ok F, bd_some]
  by_cases c1 : c < 0
  · rw [if_pos c1, if_neg (by omega)]
  rw [if_neg c1]
  by_cases c2 : c < cod (m_rd h 344)
  · rw [if_pos c2, if_pos (by omega)]
  · rw [if_neg c2, if_neg (by omega)]
theorem hasCode_ok {t c : Int} {S : Int → Int} {h : MH} (R : ShR h t S) : GX8_hasCode t c h = some (if 0 ≤ c ∧ c < cod S then 1 else 0, h) := by
  unfold GX8_hasCode
  rw [R.2.2.2.1]
  by_cases c1 : c < 0
  · rw [if_pos c1, if_neg (by omega)]
  rw [if_neg c1]
  by_cases c2 : c < cod S
  · rw [if_pos c2, if_pos (by omega)]
  · rw [if_neg c2, if_neg (by omega)]
theorem hasHole_ok {t c : Int} {S : Int → Int} {h : MH} (R : ShR h t S) : GX8_hasHole t c h = some (if 0 ≤ c ∧ c < S 3 then 1 else 0, h) := by
  unfold GX8_hasHole
  rw [R.2.2.1]
  by_cases c1 : c < 0
  · rw [if_pos c1, if_neg (by omega)]
  rw [if_neg c1]
  by_cases c2 : c < S 3
  · rw [if_pos c2, if_pos (by omega)]
  · rw [if_neg c2, if_neg (by omega)]
theorem isHole_ok {c : Int} {h : MH} : GX12_isHole c h = some (if 0 ≤ c ∧ c < m_rd h 344 3 then 1 else 0, h) := by
  unfold GX12_isHole
  by_cases c1 : c < 0
  · rw [if_pos c1, if_neg (by omega)]
  rw [if_neg c1]
  by_cases c2 : c < m_rd h 344 3
  · rw [if_pos c2, if_pos (by omega)]
  · rw [if_neg c2, if_neg (by omega)]
theorem has_ok {t c : Int} {S : Int → Int} {h : MH} (R : PlR h t S) : GX4_has t c h = some (if 0 ≤ c ∧ c < S 13 then 1 else 0, h) := by
  unfold GX4_has
  rw [R.1]
  by_cases c1 : c < 0
  · rw [if_pos c1, if_neg (by omega)]
  rw [if_neg c1]
  by_cases c2 : c < S 13
  · rw [if_pos c2, if_pos (by omega)]
  · rw [if_neg c2, if_neg (by omega)]
theorem isEntry_ok {c : Int} {h : MH} : GX12_isEntry c h = some (if 0 ≤ c ∧ c < m_rd h 344 13 then 1 else 0, h) := by
  unfold GX12_isEntry
  by_cases c1 : c < 0
  · rw [if_pos c1, if_neg (by omega)]
  rw [if_neg c1]
  by_cases c2 : c < m_rd h 344 13
  · rw [if_pos c2, if_pos (by omega)]
  · rw [if_neg c2, if_neg (by omega)]
theorem in_ok {x a b : Int} {h : MH} : GX12_in x a b h = some (if a ≤ x ∧ x ≤ b then 1 else 0, h) := by
  unfold GX12_in
  by_cases c1 : x < a
  · rw [if_pos (lc_lt.2 c1), if_neg (by omega)]
  rw [if_neg (fun z => c1 (lc_lt.1 z))]
  by_cases c2 : b < x
  · rw [if_pos (lc_gt.2 c2), if_neg (by omega)]
  · rw [if_neg (fun z => c2 (lc_gt.1 z)), if_pos (by omega)]
theorem t01 {c : Prop} [Decidable c] : ((if c then (1 : Int) else 0) = 0) ↔ ¬ c := by
  by_cases hc : c
  · rw [if_pos hc]
    exact ⟨fun z => absurd z (by decide), fun z => absurd hc z⟩
  · rw [if_neg hc]
    exact ⟨fun _ => hc, fun _ => rfl⟩
theorem mn_b {x : Int} (h0 : 0 ≤ x) (h1 : x ≤ 999) : m_mn (m_w32 (x + 1)) 999 = if x < 999 then x + 1 else 999 := by
  rw [w32_id (by omega) (by omega)]
  unfold m_mn
  split <;> split <;> omega
/-! THE SMALL ACTS ON A ROW -/
def cmS (c : Int) (S : Int → Int) : Int → Int := if S 12 = 20 then S else ups (ups S (26 + S 12) c) 12 (S 12 + 1)
def tiS (t : Int) (S : Int → Int) : Int → Int := ups (ups S (20 + t) (if S (20 + t) < 999 then S (20 + t) + 1 else 999)) (14 + t) 0
theorem cm_at {c : Int} {S : Int → Int} (n : S 12 ≠ 20) (k : Int) : cmS c S k = if k = 12 then S 12 + 1 else if k = 26 + S 12 then c else S k := by
  unfold cmS ups
  rw [if_neg n]
theorem ti_at {t : Int} {S : Int → Int} (k : Int) : tiS t S k = if k = 14 + t then 0 else if k = 20 + t then (if S (20 + t) < 999 then S (20 + t) + 1 else 999) else S k := rfl
/-- a row of the state changed: what else is needed -/
theorem Wf.st {B B' : Int} {S S' : Int → Int} (H : Wf B S) (sh : ∀ k, (0 ≤ k ∧ k < 10) ∨ (82 ≤ k ∧ k < 88) → S' k = S k) (e : WfE S') (w : WfW S') (h0 : 0 ≤ S' 11) (h1 : S' 11 ≤ S' 10) (h2 : S' 10 ≤ B') (z : S 0 = 0 → S' 12 = 0 ∧ S' 13 = 0) : Wf B' S' := by
  refine ⟨?_, e, w, h0, h1, h2⟩
  unfold WfF
  rw [sh 0 (by omega), sh 1 (by omega), sh 2 (by omega), sh 3 (by omega), sh 4 (by omega), sh 5 (by omega)]
  rcases H.1 with ⟨a1, a2, a3, a4, a5, a6, a7, a8⟩ | ⟨a1, a2, a3, a4, a5, a6, a7⟩
  · refine Or.inl ⟨a1, a2, a3, a4, a5, a6, a7, fun i i0 i1 => ?_⟩
    rw [sh _ (by omega)]
    exact a8 i i0 i1
  · exact Or.inr ⟨a1, a2, a3, a4, a5, a6, (z a1).1, (z a1).2⟩
theorem cm_wf {B c : Int} {S : Int → Int} (H : Wf B S) (c0 : 0 ≤ c) (c1 : c < cod S) : Wf B (cmS c S) := by
  by_cases n : S 12 = 20
  · unfold cmS
    rw [if_pos n]
    exact H
  have at' := cm_at (c := c) n
  obtain ⟨F, E, ⟨W1, W2, W3⟩, t1, t2, t3⟩ := id H
  have cb := cod_b F
  refine H.st (fun k z => ?_) (E.sg (fun k z => ?_)) ⟨?_, fun i i0 i1 => ?_, fun i i0 i1 => ?_⟩ ?_ ?_ ?_ ?_
  · rw [at', if_neg (by omega), if_neg (by omega)]
  · rw [at', if_neg (by omega), if_neg (by omega)]
  · rw [at', if_pos rfl]
    omega
  · rw [at', at', at', if_neg (by omega), if_neg (by omega), if_neg (by omega), if_neg (by omega), if_neg (by omega), if_neg (by omega)]
    exact W2 i i0 i1
  · rw [at' 12, if_pos rfl] at i1
    rw [cod_sg (S := S) (by rw [at', if_neg (by omega), if_neg (by omega)]) (by rw [at', if_neg (by omega), if_neg (by omega)]) (by rw [at', if_neg (by omega), if_neg (by omega)]), at', if_neg (by omega)]
    by_cases ci : i = S 12
    · rw [if_pos (by omega)]
      exact ⟨c0, c1⟩
    · rw [if_neg (by omega)]
      exact W3 i i0 (by omega)
  · rw [at', if_neg (by omega), if_neg (by omega)]
    exact t1
  · rw [at', at', if_neg (by omega), if_neg (by omega), if_neg (by omega), if_neg (by omega)]
    exact t2
  · rw [at', if_neg (by omega), if_neg (by omega)]
    exact t3
  · intro z
    exfalso
    have := cb.2.2.1 (by omega)
    omega
theorem ti_wf {B t : Int} {S : Int → Int} (H : Wf B S) (t0 : 0 ≤ t) (t1 : t < S 3) : Wf B (tiS t S) := by
  have at' := ti_at (t := t) (S := S)
  obtain ⟨F, E, W, u1, u2, u3⟩ := id H
  have fb := F.b
  obtain ⟨W1, W2, W3⟩ := W
  refine H.st (fun k z => ?_) (E.sg (fun k z => ?_)) ⟨?_, fun i i0 i1 => ?_, fun i i0 i1 => ?_⟩ ?_ ?_ ?_ ?_
  · rw [at', if_neg (by omega), if_neg (by omega)]
  · rw [at', if_neg (by omega), if_neg (by omega)]
  · rw [at', if_neg (by omega), if_neg (by omega)]
    exact W1
  · have q := W2 i i0 i1
    have q2 := W2 t t0 (by omega)
    rw [at' 3, if_neg (by omega), if_neg (by omega), at', at']
    by_cases c : i = t
    · subst c
      rw [if_pos rfl, if_neg (by omega), if_pos rfl]
      refine ⟨by omega, by omega, ?_, ?_, fun z => by omega⟩ <;> split <;> omega
    · rw [if_neg (by omega), if_neg (by omega), if_neg (by omega), if_neg (by omega)]
      exact q
  · rw [at' 12, if_neg (by omega), if_neg (by omega)] at i1
    rw [cod_sg (S := S) (by rw [at', if_neg (by omega), if_neg (by omega)]) (by rw [at', if_neg (by omega), if_neg (by omega)]) (by rw [at', if_neg (by omega), if_neg (by omega)]), at', if_neg (by omega), if_neg (by omega)]
    exact W3 i i0 i1
  · rw [at', if_neg (by omega), if_neg (by omega)]
    exact u1
  · rw [at', at', if_neg (by omega), if_neg (by omega), if_neg (by omega), if_neg (by omega)]
    exact u2
  · rw [at', if_neg (by omega), if_neg (by omega)]
    exact u3
  · intro z
    rw [at', at', if_neg (by omega), if_neg (by omega), if_neg (by omega), if_neg (by omega)]
    rcases F with q | q
    · omega
    · omega
/-! the class's and the reference's small acts -/
theorem queue_ok {w c : Int} {S : Int → Int} {h : MH} (R : WkR h w S) (n0 : 0 ≤ S 12) (n1 : S 12 ≤ 20) (n13 : S 13 ≤ 12) : ∃ h', GX10_queue w c h = some h' ∧ Fr (fun x _ => w ≤ x ∧ x < w + 8) h h' ∧ WkR h' w (cmS c S) := by
  obtain ⟨r1, r2, r3, ⟨r4, r4b⟩, r5, r6, r7⟩ := id R
  unfold GX10_queue
  by_cases n : S 12 = 20
  · rw [if_neg (by omega)]
    unfold cmS
    rw [if_pos n]
    exact ⟨h, rfl, Fr.rf, R⟩
  have at' := cm_at (c := c) n
  rw [if_pos (by omega), gd_ib (by omega) (by omega), gd_nil, rd_ne (by omega), w32_id (by omega) (by omega), r3]
  refine ⟨_, rfl, ?_, ?_, ?_, ?_, ⟨?_, fun e e0 e1 => ?_⟩, fun i i0 i1 => ?_, fun i i0 i1 => ?_, fun i i0 i1 => ?_⟩
  · refine (Fr.rf.wr ?_).wr ?_ <;> omega
  · rw [at', if_neg (by omega), if_neg (by omega)]
    simp (disch := omega) only [w32_id, rd_eq, rd_ne, cp_in, cp_out, lc_lt, lc_gt, lc_eq]
    exact r1
  · rw [at', if_neg (by omega), if_neg (by omega)]
    simp (disch := omega) only [w32_id, rd_eq, rd_ne, cp_in, cp_out, lc_lt, lc_gt, lc_eq]
    exact r2
  · rw [at', if_pos rfl]
    simp (disch := omega) only [w32_id, rd_eq, rd_ne, cp_in, cp_out, lc_lt, lc_gt, lc_eq]
  · rw [at', if_neg (by omega), if_neg (by omega)]
    simp (disch := omega) only [w32_id, rd_eq, rd_ne, cp_in, cp_out, lc_lt, lc_gt, lc_eq]
    exact r4
  · rw [at' 13, if_neg (by omega), if_neg (by omega)] at e1
    rw [at', at', at', if_neg (by omega), if_neg (by omega), if_neg (by omega), if_neg (by omega), if_neg (by omega), if_neg (by omega)]
    simp (disch := omega) only [w32_id, rd_eq, rd_ne, cp_in, cp_out, lc_lt, lc_gt, lc_eq]
    exact r4b e e0 e1
  · rw [at', if_neg (by omega), if_neg (by omega)]
    simp (disch := omega) only [w32_id, rd_eq, rd_ne, cp_in, cp_out, lc_lt, lc_gt, lc_eq]
    exact r5 i i0 i1
  · rw [at', if_neg (by omega), if_neg (by omega)]
    simp (disch := omega) only [w32_id, rd_eq, rd_ne, cp_in, cp_out, lc_lt, lc_gt, lc_eq]
    exact r6 i i0 i1
  · rw [at' 12, if_pos rfl] at i1
    rw [at', if_neg (by omega)]
    by_cases c : i = S 12
    · rw [if_pos (by omega)]
      simp (disch := omega) only [w32_id, rd_eq, rd_ne, cp_in, cp_out, lc_lt, lc_gt, lc_eq]
    · rw [if_neg (by omega)]
      simp (disch := omega) only [w32_id, rd_eq, rd_ne, cp_in, cp_out, lc_lt, lc_gt, lc_eq]
      exact r7 i i0 (by omega)
theorem comes_ok {c : Int} {h : MH} (n0 : 0 ≤ m_rd h 344 12) (n1 : m_rd h 344 12 ≤ 20) : ∃ h', GX12_comes c h = some h' ∧ Fr (fun x j => x = 344 ∧ 10 ≤ j ∧ j < 82) h h' ∧ m_rd h' 344 = cmS c (m_rd h 344) := by
  unfold GX12_comes cmS
  by_cases n : m_rd h 344 12 = 20
  · rw [if_pos n, if_pos n]
    exact ⟨h, rfl, Fr.rf, rfl⟩
  rw [if_neg n, if_neg n, w32_id (x := 26 + m_rd h 344 12) (by omega) (by omega), gd_ib (by omega) (by omega), gd_nil, rd_ne (by omega), w32_id (by omega) (by omega)]
  refine ⟨_, rfl, ?_, ?_⟩
  · refine (Fr.rf.wr ?_).wr ?_ <;> omega
  · rw [rd_fn, rd_fn]
theorem bagUp_ok {w t : Int} {S : Int → Int} {h : MH} (R : WkR h w S) (W : WfW S) (t0 : 0 ≤ t) (t1 : t < 6) (n13 : S 13 ≤ 12) : ∃ h', GX10_bagUp w t h = some h' ∧ Fr (fun x _ => w ≤ x ∧ x < w + 8) h h' ∧ WkR h' w (tiS t S) := by
  obtain ⟨r1, r2, r3, ⟨r4, r4b⟩, r5, r6, r7⟩ := id R
  have at' := ti_at (t := t) (S := S)
  have q := W.2.1 t t0 t1
  have q1 := W.1
  unfold GX10_bagUp
  rw [gd_ib (by omega) (by omega), gd_nil, gd_ib (by omega) (by omega), gd_nil, gd_ib (by omega) (by omega), gd_nil, r6 t t0 t1, mn_b (by omega) (by omega)]
  generalize (if S (20 + t) < 999 then S (20 + t) + 1 else 999) = z at at' ⊢
  refine ⟨_, rfl, ?_, ?_, ?_, ?_, ⟨?_, fun e e0 e1 => ?_⟩, fun i i0 i1 => ?_, fun i i0 i1 => ?_, fun i i0 i1 => ?_⟩
  · refine (Fr.rf.wr ?_).wr ?_ <;> omega
  · rw [at', if_neg (by omega), if_neg (by omega)]
    simp (disch := omega) only [w32_id, rd_eq, rd_ne, cp_in, cp_out, lc_lt, lc_gt, lc_eq]
    exact r1
  · rw [at', if_neg (by omega), if_neg (by omega)]
    simp (disch := omega) only [w32_id, rd_eq, rd_ne, cp_in, cp_out, lc_lt, lc_gt, lc_eq]
    exact r2
  · rw [at', if_neg (by omega), if_neg (by omega)]
    simp (disch := omega) only [w32_id, rd_eq, rd_ne, cp_in, cp_out, lc_lt, lc_gt, lc_eq]
    exact r3
  · rw [at', if_neg (by omega), if_neg (by omega)]
    simp (disch := omega) only [w32_id, rd_eq, rd_ne, cp_in, cp_out, lc_lt, lc_gt, lc_eq]
    exact r4
  · rw [at' 13, if_neg (by omega), if_neg (by omega)] at e1
    rw [at', at', at', if_neg (by omega), if_neg (by omega), if_neg (by omega), if_neg (by omega), if_neg (by omega), if_neg (by omega)]
    simp (disch := omega) only [w32_id, rd_eq, rd_ne, cp_in, cp_out, lc_lt, lc_gt, lc_eq]
    exact r4b e e0 e1
  · rw [at']
    by_cases c : i = t
    · rw [if_pos (by omega)]
      simp (disch := omega) only [w32_id, rd_eq, rd_ne, cp_in, cp_out, lc_lt, lc_gt, lc_eq]
    · rw [if_neg (by omega), if_neg (by omega)]
      simp (disch := omega) only [w32_id, rd_eq, rd_ne, cp_in, cp_out, lc_lt, lc_gt, lc_eq]
      exact r5 i i0 i1
  · rw [at', if_neg (by omega)]
    by_cases c : i = t
    · rw [if_pos (by omega)]
      simp (disch := omega) only [w32_id, rd_eq, rd_ne, cp_in, cp_out, lc_lt, lc_gt, lc_eq]
    · rw [if_neg (by omega)]
      simp (disch := omega) only [w32_id, rd_eq, rd_ne, cp_in, cp_out, lc_lt, lc_gt, lc_eq]
      exact r6 i i0 i1
  · rw [at' 12, if_neg (by omega), if_neg (by omega)] at i1
    rw [at', if_neg (by omega), if_neg (by omega)]
    simp (disch := omega) only [w32_id, rd_eq, rd_ne, cp_in, cp_out, lc_lt, lc_gt, lc_eq]
    exact r7 i i0 i1
theorem ties_ok {t : Int} {h : MH} (W : WfW (m_rd h 344)) (t0 : 0 ≤ t) (t1 : t < 6) : ∃ h', GX12_ties t h = some h' ∧ Fr (fun x j => x = 344 ∧ 10 ≤ j ∧ j < 82) h h' ∧ m_rd h' 344 = tiS t (m_rd h 344) := by
  have q := W.2.1 t t0 t1
  unfold GX12_ties tiS
  rw [w32_id (x := 20 + t) (by omega) (by omega), w32_id (x := 14 + t) (by omega) (by omega), gd_ib (by omega) (by omega), gd_nil]
  by_cases c : m_rd h 344 (20 + t) < 999
  · rw [if_pos c, gd_ib (by omega) (by omega), gd_nil, gd_ib (by omega) (by omega), gd_nil, w32_id (by omega) (by omega), if_pos c]
    refine ⟨_, rfl, ?_, ?_⟩
    · refine (Fr.rf.wr ?_).wr ?_ <;> omega
    · rw [rd_fn, rd_fn]
  · rw [if_neg c, gd_ib (by omega) (by omega), gd_nil, if_neg c]
    refine ⟨_, rfl, ?_, ?_⟩
    · refine Fr.rf.wr ?_
      omega
    · rw [rd_fn]
      congr 1
      funext k
      unfold ups
      by_cases ck : k = 20 + t
      · rw [if_pos ck, ck]
        omega
      · rw [if_neg ck]
