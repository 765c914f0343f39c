/-! ENTRIES: find, put, enter -/
def nmG (S : Int → Int) (d p : Int) : Nat → Int → Int
  | 0, v => v
  | n + 1, v => if S (46 + 3 * v) = d ∧ S (47 + 3 * v) = p then v else nmG S d p n (v + 1)
theorem nm_h {S : Int → Int} {d p v : Int} {n : Nat} (c1 : S (46 + 3 * v) = d) (c2 : S (47 + 3 * v) = p) : nmG S d p (n + 1) v = v := if_pos ⟨c1, c2⟩
theorem nm_m {S : Int → Int} {d p v : Int} {n : Nat} (c : ¬ (S (46 + 3 * v) = d ∧ S (47 + 3 * v) = p)) : nmG S d p (n + 1) v = nmG S d p n (v + 1) := if_neg c
def num (S : Int → Int) (d p : Int) : Int := nmG S d p (S 13).toNat 0
theorem nm_f {S : Int → Int} {d p : Int} : ∀ (m : Nat) (v : Int), v ≤ nmG S d p m v ∧ nmG S d p m v ≤ v + m ∧ (nmG S d p m v < v + m → S (46 + 3 * nmG S d p m v) = d ∧ S (47 + 3 * nmG S d p m v) = p) ∧ ∀ e, v ≤ e → e < nmG S d p m v → ¬ (S (46 + 3 * e) = d ∧ S (47 + 3 * e) = p) := by
  intro m
  induction m with
  | zero =>
    intro v
    show v ≤ v ∧ v ≤ v + (0 : Nat) ∧ (v < v + (0 : Nat) → _) ∧ ∀ e, v ≤ e → e < v → _
    exact ⟨by omega, by omega, fun z => by omega, fun e e0 e1 => by omega⟩
  | succ m ih =>
    intro v
    by_cases c : S (46 + 3 * v) = d ∧ S (47 + 3 * v) = p
    · rw [nm_h c.1 c.2]
      exact ⟨by omega, by omega, fun _ => c, fun e e0 e1 => by omega⟩
    · rw [nm_m c]
      obtain ⟨a1, a2, a3, a4⟩ := ih (v + 1)
      refine ⟨by omega, by omega, fun z => a3 (by omega), fun e e0 e1 => ?_⟩
      by_cases ce : e = v
      · rw [ce]
        exact c
      · exact a4 e (by omega) e1
theorem num_f {S : Int → Int} {d p : Int} (n0 : 0 ≤ S 13) : 0 ≤ num S d p ∧ num S d p ≤ S 13 ∧ (num S d p < S 13 → S (46 + 3 * num S d p) = d ∧ S (47 + 3 * num S d p) = p) ∧ ∀ e, 0 ≤ e → e < num S d p → ¬ (S (46 + 3 * e) = d ∧ S (47 + 3 * e) = p) := by
  obtain ⟨a1, a2, a3, a4⟩ := nm_f (S := S) (d := d) (p := p) (S 13).toNat 0
  unfold num
  exact ⟨by omega, by omega, fun z => a3 (by omega), a4⟩
theorem find_L {t d p : Int} {S : Int → Int} {h : MH} {K0 : Int → MH → Option (Int × MH)} {K1 : MH → Option (Int × MH)} (R : PlR h t S) (n13 : S 13 ≤ 12) : ∀ (m f : Nat) (v : Int), m < f → v + m = S 13 → 0 ≤ v → GX4_find_L2 t d p K0 K1 f v h = if nmG S d p m v < S 13 then K0 (nmG S d p m v) h else K1 h := by
  intro m
  induction m with
  | zero =>
    intro f v hf hv v0
    obtain ⟨g, rfl⟩ : ∃ g, f = g + 1 := ⟨f - 1, by omega⟩
    conv => lhs; unfold GX4_find_L2
    have r1 := R.1
    show _ = if v < S 13 then _ else _
    rw [if_neg (by omega), if_neg (by omega)]
  | succ m ih =>
    intro f v hf hv v0
    obtain ⟨g, rfl⟩ : ∃ g, f = g + 1 := ⟨f - 1, by omega⟩
    conv => lhs; unfold GX4_find_L2
    have r1 := R.1
    obtain ⟨q1, q2, q3⟩ := R.2 v v0 (by omega)
    rw [if_pos (by omega), gd_ib (by omega) (by omega), gd_nil, gd_ib (by omega) (by omega), gd_nil, q1, q2, w32_id (by omega) (by omega), ih g (v + 1) (by omega) (by omega) (by omega)]
    by_cases c1 : S (46 + 3 * v) = d
    · rw [if_pos c1]
      by_cases c2 : S (47 + 3 * v) = p
      · rw [if_pos c2, nm_h c1 c2, if_pos (by omega)]
      · rw [if_neg c2, nm_m (fun z => c2 z.2)]
    · rw [if_neg c1, nm_m (fun z => c1 z.1)]
theorem find_ok {t d p : Int} {S : Int → Int} {h : MH} (R : PlR h t S) (n0 : 0 ≤ S 13) (n13 : S 13 ≤ 12) : GX4_find t d p h = some (if num S d p < S 13 then num S d p else -1, h) := by
  unfold GX4_find
  rw [find_L (K0 := fun w1 h2 => some (w1, h2)) (K1 := fun h3 => some ((-1), h3)) R n13 (S 13).toNat FU 0 (by unfold FU; omega) (by omega) (by omega)]
  unfold num
  split <;> rfl
theorem numberOf_L {d p : Int} {h : MH} {K : Int → MH → Option (Int × MH)} (n13 : m_rd h 344 13 ≤ 12) : ∀ (m f : Nat) (v : Int), m < f → v + m = m_rd h 344 13 → 0 ≤ v → GX12_numberOf_L2 d p K f v h = K (nmG (m_rd h 344) d p m v) h := by
  intro m
  induction m with
  | zero =>
    intro f v hf hv v0
    obtain ⟨g, rfl⟩ : ∃ g, f = g + 1 := ⟨f - 1, by omega⟩
    conv => lhs; unfold GX12_numberOf_L2
    rw [if_neg (by omega)]
    rfl
  | succ m ih =>
    intro f v hf hv v0
    obtain ⟨g, rfl⟩ : ∃ g, f = g + 1 := ⟨f - 1, by omega⟩
    conv => lhs; unfold GX12_numberOf_L2
    rw [if_pos (by omega), w32_id (x := 3 * v) (by omega) (by omega), w32_id (x := 46 + 3 * v) (by omega) (by omega), w32_id (x := 46 + 3 * v + 1) (by omega) (by omega), gd_ib (by omega) (by omega), gd_nil, gd_ib (by omega) (by omega), gd_nil, w32_id (by omega) (by omega), ih g (v + 1) (by omega) (by omega) (by omega), show 46 + 3 * v + 1 = 47 + 3 * v by omega]
    by_cases c1 : m_rd h 344 (46 + 3 * v) = d
    · rw [if_pos c1]
      by_cases c2 : m_rd h 344 (47 + 3 * v) = p
      · rw [if_pos c2, nm_h c1 c2]
      · rw [if_neg c2, nm_m (fun z => c2 z.2)]
    · rw [if_neg c1, nm_m (fun z => c1 z.1)]
theorem numberOf_ok {d p : Int} {h : MH} (n0 : 0 ≤ m_rd h 344 13) (n13 : m_rd h 344 13 ≤ 12) : GX12_numberOf d p h = some (num (m_rd h 344) d p, h) := by
  unfold GX12_numberOf
  exact numberOf_L (K := fun w1 h2 => some (w1, h2)) n13 (m_rd h 344 13).toNat FU 0 (by unfold FU; omega) (by omega) (by omega)
/-- an entry entered -/
def enS (d p t : Int) (S : Int → Int) : Int → Int := ups (ups (ups (if num S d p = S 13 then ups S 13 (S 13 + 1) else S) (46 + 3 * num S d p) d) (47 + 3 * num S d p) p) (48 + 3 * num S d p) t
theorem en_at {d p t : Int} {S : Int → Int} (k : Int) (n0 : 0 ≤ S 13) : enS d p t S k = if k = 48 + 3 * num S d p then t else if k = 47 + 3 * num S d p then p else if k = 46 + 3 * num S d p then d else if k = 13 then (if num S d p = S 13 then S 13 + 1 else S 13) else S k := by
  have := num_f (S := S) (d := d) (p := p) n0
  unfold enS
  show (if k = 48 + 3 * num S d p then t else if k = 47 + 3 * num S d p then p else if k = 46 + 3 * num S d p then d else (if num S d p = S 13 then ups S 13 (S 13 + 1) else S) k) = _
  congr 3
  by_cases c : num S d p = S 13
  · rw [if_pos c, if_pos c]
    rfl
  · rw [if_neg c, if_neg c]
    by_cases ck : k = 13
    · rw [if_pos ck, ck]
    · rw [if_neg ck]
theorem en_13 {d p t : Int} {S : Int → Int} (n0 : 0 ≤ S 13) : enS d p t S 13 = if num S d p = S 13 then S 13 + 1 else S 13 := by
  have := num_f (S := S) (d := d) (p := p) n0
  rw [en_at 13 n0, if_neg (by omega), if_neg (by omega), if_neg (by omega), if_pos rfl]
theorem en_o {d p t : Int} {S : Int → Int} (n0 : 0 ≤ S 13) {k : Int} (k1 : k ≠ 13) (k2 : k < 46 + 3 * num S d p ∨ 48 + 3 * num S d p < k) : enS d p t S k = S k := by
  rw [en_at k n0, if_neg (by omega), if_neg (by omega), if_neg (by omega), if_neg k1]
theorem en_e {d p t : Int} {S : Int → Int} (n0 : 0 ≤ S 13) : enS d p t S (46 + 3 * num S d p) = d ∧ enS d p t S (47 + 3 * num S d p) = p ∧ enS d p t S (48 + 3 * num S d p) = t := by
  refine ⟨?_, ?_, ?_⟩
  · rw [en_at _ n0, if_neg (by omega), if_neg (by omega), if_pos rfl]
  · rw [en_at _ n0, if_neg (by omega), if_pos rfl]
  · rw [en_at _ n0, if_pos rfl]
theorem en_wf {B d p t : Int} {S : Int → Int} (H : Wf B S) (f1 : S 0 = 1) (d0 : 0 ≤ d) (d1 : d ≤ S 2) (p0 : 0 ≤ p) (p1 : p < pw (S 1) d) (t0 : 0 ≤ t) (t1 : t < S 3) (hn : num S d p < 12) : Wf B (enS d p t S) := by
  obtain ⟨F, ⟨E1, E2, E3⟩, W, u1, u2, u3⟩ := id H
  have n0 := E1.1
  obtain ⟨a1, a2, a3, a4⟩ := num_f (S := S) (d := d) (p := p) n0
  have o := fun k => en_o (d := d) (p := p) (t := t) n0 (k := k)
  obtain ⟨z1, z2, z3⟩ := en_e (d := d) (p := p) (t := t) n0
  have e13 := en_13 (d := d) (p := p) (t := t) n0
  have n13 : (num S d p = S 13 ∧ enS d p t S 13 = S 13 + 1) ∨ (num S d p < S 13 ∧ enS d p t S 13 = S 13) := by
    rw [e13]
    split <;> omega
  have q1 := o 1 (by omega) (by omega)
  have q2 := o 2 (by omega) (by omega)
  have q3 := o 3 (by omega) (by omega)
  refine H.st (fun k z => o k (by omega) (by omega)) ⟨by omega, fun e e0 e1 => ?_, fun e e' i0 i1 i2 => ?_⟩ (W.sg (fun k z => o k (by omega) (by omega))) ?_ ?_ ?_ (fun z => by omega)
  · rw [q1, q2, q3]
    by_cases c : e = num S d p
    · rw [c, z1, z2, z3]
      exact ⟨d0, d1, p0, p1, t0, t1⟩
    · rw [o (46 + 3 * e) (by omega) (by omega), o (47 + 3 * e) (by omega) (by omega), o (48 + 3 * e) (by omega) (by omega)]
      exact E2 e e0 (by omega)
  · by_cases c : e = num S d p
    · rw [c, z1, z2, o (46 + 3 * e') (by omega) (by omega), o (47 + 3 * e') (by omega) (by omega)]
      intro y1 y2
      obtain ⟨x1, x2⟩ := a3 (by omega)
      exact E3 (num S d p) e' a1 (by omega) (by omega) (by omega) (by omega)
    · by_cases c' : e' = num S d p
      · rw [c', z1, z2, o (46 + 3 * e) (by omega) (by omega), o (47 + 3 * e) (by omega) (by omega)]
        intro y1 y2
        exact a4 e i0 (by omega) ⟨y1, y2⟩
      · rw [o (46 + 3 * e) (by omega) (by omega), o (47 + 3 * e) (by omega) (by omega), o (46 + 3 * e') (by omega) (by omega), o (47 + 3 * e') (by omega) (by omega)]
        exact E3 e e' i0 i1 (by omega)
  · rw [o 11 (by omega) (by omega)]
    exact u1
  · rw [o 11 (by omega) (by omega), o 10 (by omega) (by omega)]
    exact u2
  · rw [o 10 (by omega) (by omega)]
    exact u3
/-- the plan's part of a work: what else is kept -/
theorem WkR.pl {h h' : MH} {w : Int} {S S' : Int → Int} (R : WkR h w S) (P : PlR h' (w + 1) S') (e : ∀ a j, w ≤ a → a < w + 8 → (a < w + 1 ∨ w + 5 ≤ a) → m_rd h' a j = m_rd h a j) (s : ∀ k, 10 ≤ k → k < 46 → k ≠ 13 → S' k = S k) (n12 : S 12 ≤ 20) : WkR h' w S' := by
  obtain ⟨r1, r2, r3, r4, r5, r6, r7⟩ := R
  have q := s 12 (by omega) (by omega) (by omega)
  refine ⟨?_, ?_, ?_, P, fun i i0 i1 => ?_, fun i i0 i1 => ?_, fun i i0 i1 => ?_⟩
  · rw [e _ _ (by omega) (by omega) (by omega), s _ (by omega) (by omega) (by omega)]; exact r1
  · rw [e _ _ (by omega) (by omega) (by omega), s _ (by omega) (by omega) (by omega)]; exact r2
  · rw [e _ _ (by omega) (by omega) (by omega), s _ (by omega) (by omega) (by omega)]; exact r3
  · rw [e _ _ (by omega) (by omega) (by omega), s _ (by omega) (by omega) (by omega)]; exact r5 i i0 i1
  · rw [e _ _ (by omega) (by omega) (by omega), s _ (by omega) (by omega) (by omega)]; exact r6 i i0 i1
  · rw [e _ _ (by omega) (by omega) (by omega), s _ (by omega) (by omega) (by omega)]; exact r7 i i0 (by omega)
theorem put_ok {t d p x : Int} {S : Int → Int} {h : MH} (R : PlR h t S) (n0 : 0 ≤ S 13) (n13 : S 13 ≤ 12) (hn : num S d p < 12) : ∃ h', GX4_put t d p x h = some (num S d p, h') ∧ Fr (fun y _ => t ≤ y ∧ y < t + 4) h h' ∧ PlR h' t (enS d p x S) := by
  obtain ⟨a1, a2, a3, a4⟩ := num_f (S := S) (d := d) (p := p) n0
  have o := fun k => en_o (d := d) (p := p) (t := x) n0 (k := k)
  obtain ⟨z1, z2, z3⟩ := en_e (d := d) (p := p) (t := x) n0
  have e13 := en_13 (d := d) (p := p) (t := x) n0
  obtain ⟨r1, r2⟩ := R
  unfold GX4_put
  rw [find_ok ⟨r1, r2⟩ n0 n13, bd_some]
  by_cases c : num S d p < S 13
  · rw [if_pos c, if_neg (by omega), gd_ib (by omega) (by omega), gd_nil]
    refine ⟨_, rfl, ?_, ?_, fun e e0 e1 => ?_⟩
    · refine Fr.rf.wr ?_
      omega
    · rw [e13, if_neg (by omega)]
      simp (disch := omega) only [w32_id, rd_eq, rd_ne, cp_in, cp_out, lc_lt, lc_gt, lc_eq]
      exact r1
    · rw [e13, if_neg (by omega)] at e1
      obtain ⟨q1, q2, q3⟩ := r2 e e0 e1
      by_cases ce : e = num S d p
      · subst ce
        obtain ⟨x1, x2⟩ := a3 c
        rw [z1, z2, z3]
        simp (disch := omega) only [w32_id, rd_eq, rd_ne, cp_in, cp_out, lc_lt, lc_gt, lc_eq]
        exact ⟨by omega, by omega, trivial⟩
      · rw [o (46 + 3 * e) (by omega) (by omega), o (47 + 3 * e) (by omega) (by omega), o (48 + 3 * e) (by omega) (by omega)]
        simp (disch := omega) only [w32_id, rd_eq, rd_ne, cp_in, cp_out, lc_lt, lc_gt, lc_eq]
        exact ⟨q1, q2, q3⟩
  · rw [if_neg c, if_pos rfl, if_pos (by omega), gd_ib (by omega) (by omega), gd_nil, w32_id (by omega) (by omega), r1, show S 13 = num S d p by omega]
    show ∃ h', gd [IB (num S d p) 12] _ = _ ∧ _
    rw [gd_ib (by omega) (by omega), gd_nil, gd_ib (by omega) (by omega), gd_nil]
    refine ⟨_, rfl, ?_, ?_, fun e e0 e1 => ?_⟩
    · refine (((Fr.rf.wr ?_).wr ?_).wr ?_).wr ?_ <;> omega
    · rw [e13, if_pos (by omega)]
      simp (disch := omega) only [w32_id, rd_eq, rd_ne, cp_in, cp_out, lc_lt, lc_gt, lc_eq]
      omega
    · rw [e13, if_pos (by omega)] at e1
      by_cases ce : e = num S d p
      · subst ce
        rw [z1, z2, z3]
        simp (disch := omega) only [w32_id, rd_eq, rd_ne, cp_in, cp_out, lc_lt, lc_gt, lc_eq]
        exact ⟨trivial, trivial, trivial⟩
      · obtain ⟨q1, q2, q3⟩ := r2 e e0 (by omega)
        rw [o (46 + 3 * e) (by omega) (by omega), o (47 + 3 * e) (by omega) (by omega), o (48 + 3 * e) (by omega) (by omega)]
        simp (disch := omega) only [w32_id, rd_eq, rd_ne, cp_in, cp_out, lc_lt, lc_gt, lc_eq]
        exact ⟨q1, q2, q3⟩
theorem enters_ok {d p x : Int} {h : MH} (n0 : 0 ≤ m_rd h 344 13) (n13 : m_rd h 344 13 ≤ 12) (hn : num (m_rd h 344) d p < 12) : ∃ h', GX12_enters d p x h = some (num (m_rd h 344) d p, h') ∧ Fr (fun y j => y = 344 ∧ 10 ≤ j ∧ j < 82) h h' ∧ m_rd h' 344 = enS d p x (m_rd h 344) := by
  obtain ⟨a1, a2, a3, a4⟩ := num_f (S := m_rd h 344) (d := d) (p := p) n0
  unfold GX12_enters enS
  rw [numberOf_ok n0 n13, bd_some, w32_id (x := 3 * num (m_rd h 344) d p) (by omega) (by omega), w32_id (x := 46 + 3 * num (m_rd h 344) d p) (by omega) (by omega), w32_id (x := 46 + 3 * num (m_rd h 344) d p + 1) (by omega) (by omega), w32_id (x := 46 + 3 * num (m_rd h 344) d p + 2) (by omega) (by omega), w32_id (x := m_rd h 344 13 + 1) (by omega) (by omega), show 46 + 3 * num (m_rd h 344) d p + 1 = 47 + 3 * num (m_rd h 344) d p by omega, show 46 + 3 * num (m_rd h 344) d p + 2 = 48 + 3 * num (m_rd h 344) d p by omega]
  simp only [jn, hl]
  by_cases c : num (m_rd h 344) d p = m_rd h 344 13
  · rw [if_pos c, if_pos c, gd_ib (by omega) (by omega), gd_nil, gd_ib (by omega) (by omega), gd_nil, gd_ib (by omega) (by omega), gd_nil]
    refine ⟨_, rfl, ?_, ?_⟩
    · refine (((Fr.rf.wr ?_).wr ?_).wr ?_).wr ?_ <;> omega
    · rw [rd_fn, rd_fn, rd_fn, rd_fn]
  · rw [if_neg c, if_neg c, gd_ib (by omega) (by omega), gd_nil, gd_ib (by omega) (by omega), gd_nil, gd_ib (by omega) (by omega), gd_nil]
    refine ⟨_, rfl, ?_, ?_⟩
    · refine ((Fr.rf.wr ?_).wr ?_).wr ?_ <;> omega
    · rw [rd_fn, rd_fn, rd_fn]
