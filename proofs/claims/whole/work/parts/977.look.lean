/-! look -/
theorem cntF_last {q : Int → Bool} : ∀ (m : Nat) (v : Int), cntF q (m + 1) v = cntF q m v + (if q (v + m) = true then 1 else 0) := by
  intro m
  induction m with
  | zero =>
    intro v
    show (if q v = true then (1 : Int) else 0) + 0 = 0 + _
    rw [Int.add_zero, Int.zero_add, show v + ((0 : Nat) : Int) = v by omega]
  | succ m ih =>
    intro v
    show (if q v = true then (1 : Int) else 0) + cntF q (m + 1) (v + 1) = (if q v = true then (1 : Int) else 0) + cntF q m (v + 1) + _
    rw [ih (v + 1), show v + 1 + (m : Int) = v + ((m + 1 : Nat) : Int) by omega, Int.add_assoc]
theorem cnt_mono {q : Int → Bool} {v : Int} {a b : Nat} (h : a ≤ b) : cntF q a v ≤ cntF q b v := by
  induction b with
  | zero =>
    rw [show a = 0 by omega]
    exact Int.le_refl _
  | succ b ih =>
    by_cases c : a = b + 1
    · rw [c]
      exact Int.le_refl _
    · have := ih (by omega)
      rw [cntF_last]
      split <;> omega
theorem cnt_lt {q : Int → Bool} {a b : Nat} (h : a < b) (t : q (a : Int) = true) : cntF q a 0 < cntF q b 0 := by
  have m := cnt_mono (q := q) (v := 0) (show a + 1 ≤ b by omega)
  rw [cntF_last, show (0 : Int) + (a : Int) = (a : Int) by omega, if_pos t] at m
  omega
def mxF (w : Int → Int) : Nat → Int → Int → Int
  | 0, _, x => x
  | m + 1, v, x => mxF w m (v + 1) (m_mx x (w v))
theorem mxF_last {w : Int → Int} : ∀ (m : Nat) (v x : Int), mxF w (m + 1) v x = m_mx (mxF w m v x) (w (v + m)) := by
  intro m
  induction m with
  | zero =>
    intro v x
    show m_mx x (w v) = m_mx x (w (v + ((0 : Nat) : Int)))
    rw [show v + ((0 : Nat) : Int) = v by omega]
  | succ m ih =>
    intro v x
    show mxF w (m + 1) (v + 1) (m_mx x (w v)) = m_mx (mxF w m (v + 1) (m_mx x (w v))) _
    rw [ih (v + 1), show v + 1 + (m : Int) = v + ((m + 1 : Nat) : Int) by omega]
theorem mx_b {x y : Int} : x ≤ m_mx x y ∧ y ≤ m_mx x y ∧ (m_mx x y = x ∨ m_mx x y = y) := by
  unfold m_mx
  split <;> omega
theorem mxF_b {w : Int → Int} {B : Int} : ∀ (m : Nat) (v x : Int), x ≤ B → (∀ j, v ≤ j → j < v + m → w j ≤ B) → x ≤ mxF w m v x ∧ mxF w m v x ≤ B ∧ ∀ j, v ≤ j → j < v + m → w j ≤ mxF w m v x := by
  intro m
  induction m with
  | zero =>
    intro v x hx _
    exact ⟨Int.le_refl _, hx, fun j j0 j1 => by omega⟩
  | succ m ih =>
    intro v x hx hw
    have b := mx_b (x := x) (y := w v)
    have wv := hw v (by omega) (by omega)
    obtain ⟨a1, a2, a3⟩ := ih (v + 1) (m_mx x (w v)) (by omega) (fun j j0 j1 => hw j (by omega) (by omega))
    refine ⟨?_, a2, fun j j0 j1 => ?_⟩
    · show x ≤ mxF w m (v + 1) (m_mx x (w v))
      omega
    · show w j ≤ mxF w m (v + 1) (m_mx x (w v))
      by_cases c : j = v
      · rw [c]
        omega
      · exact a3 j (by omega) (by omega)
theorem mxF_cg {w w' : Int → Int} : ∀ (m : Nat) (v x : Int), (∀ j, v ≤ j → j < v + m → w j = w' j) → mxF w m v x = mxF w' m v x := by
  intro m
  induction m with
  | zero =>
    intro v x _
    rfl
  | succ m ih =>
    intro v x h
    show mxF w m (v + 1) (m_mx x (w v)) = mxF w' m (v + 1) (m_mx x (w' v))
    rw [h v (by omega) (by omega), ih (v + 1) _ (fun j j0 j1 => h j (by omega) (by omega))]
theorem cntF_cg {q q' : Int → Bool} : ∀ (m : Nat) (v : Int), (∀ j, v ≤ j → j < v + m → q j = q' j) → cntF q m v = cntF q' m v := by
  intro m
  induction m with
  | zero =>
    intro v _
    rfl
  | succ m ih =>
    intro v h
    show (if q v = true then (1 : Int) else 0) + cntF q m (v + 1) = (if q' v = true then (1 : Int) else 0) + cntF q' m (v + 1)
    rw [h v (by omega) (by omega), ih (v + 1) (fun j j0 j1 => h j (by omega) (by omega))]
/-- counting over what fits, by place among them -/
theorem cnt_idx {pr q qr : Int → Bool} : ∀ r : Nat, (∀ s : Nat, s < r → pr s = true → qr (cntF pr s 0) = q s) → cntF qr (cntF pr r 0).toNat 0 = cntF (fun s => pr s && q s) r 0 := by
  intro r
  induction r with
  | zero =>
    intro _
    rfl
  | succ r ih =>
    intro h
    have i := ih (fun s hs => h s (by omega))
    have b := cntF_b (p := pr) r 0
    rw [cntF_last, cntF_last, show (0 : Int) + (r : Int) = (r : Int) by omega]
    cases c : pr (r : Int) with
    | false =>
      rw [if_neg (by decide), Int.add_zero, i, if_neg (by simp), Int.add_zero]
    | true =>
      rw [if_pos rfl, show (cntF pr r 0 + 1).toNat = (cntF pr r 0).toNat + 1 by omega, cntF_last, i, show (0 : Int) + (((cntF pr r 0).toNat : Nat) : Int) = cntF pr r 0 by omega, h r (by omega) c]
      simp
theorem mx_idx {pr : Int → Bool} {w w' : Int → Int} : ∀ r : Nat, (∀ s : Nat, s < r → pr s = true → w (cntF pr s 0) = w' s) → (∀ s : Nat, s < r → pr s = false → w' s = 0) → mxF w (cntF pr r 0).toNat 0 0 = mxF w' r 0 0 ∧ 0 ≤ mxF w' r 0 0 := by
  intro r
  induction r with
  | zero =>
    intro _ _
    exact ⟨rfl, Int.le_refl _⟩
  | succ r ih =>
    intro h h2
    obtain ⟨i, i0⟩ := ih (fun s hs => h s (by omega)) (fun s hs => h2 s (by omega))
    have b := cntF_b (p := pr) r 0
    rw [cntF_last, mxF_last, show (0 : Int) + (r : Int) = (r : Int) by omega]
    cases c : pr (r : Int) with
    | false =>
      rw [if_neg (by decide), Int.add_zero, i, h2 r (by omega) c]
      unfold m_mx
      rw [if_neg (by omega)]
      exact ⟨rfl, i0⟩
    | true =>
      rw [if_pos rfl, show (cntF pr r 0 + 1).toNat = (cntF pr r 0).toNat + 1 by omega, mxF_last, i, show (0 : Int) + (((cntF pr r 0).toNat : Nat) : Int) = cntF pr r 0 by omega, h r (by omega) c]
      have := mx_b (x := mxF w' r 0 0) (y := w' r)
      exact ⟨rfl, by omega⟩
/-! the class: how many are alike -/
def alC (row : Int → Int → Int) (c i a : Int) : Int := cntF (fun j => decide (row j i = row a i)) c.toNat 0
def maC (row : Int → Int → Int) (c i : Int) : Int := mxF (alC row c i) c.toNat 0 0
theorem maC_L18 {row : Int → Int → Int} {c i u a : Int} {h : MH} {K : Int → MH → Option (Int × MH)} (hc : m_rd h 323 6 = c) (c7 : c ≤ 7) (i0 : 0 ≤ i) (i6 : i < 6) (a0 : 0 ≤ a) (a7 : a < 7) (hr : ∀ j k, 0 ≤ j → m_rd h (327 + j) k = row j k) : ∀ (m f : Nat) (x v : Int), m < f → v + m = c → 0 ≤ v → 0 ≤ x → x ≤ v → GX0_mostAlike_L18 i u a K f x v h = K (x + cntF (fun j => decide (row j i = row a i)) m v) h := by
  intro m
  induction m with
  | zero =>
    intro f x v hf hv v0 x0 x1
    obtain ⟨q, rfl⟩ : ∃ q, f = q + 1 := ⟨f - 1, by omega⟩
    conv => lhs; unfold GX0_mostAlike_L18
    rw [hc, if_neg (by omega), cntF_0, Int.add_zero]
  | succ m ih =>
    intro f x v hf hv v0 x0 x1
    obtain ⟨q, rfl⟩ : ∃ q, f = q + 1 := ⟨f - 1, by omega⟩
    conv => lhs; unfold GX0_mostAlike_L18
    rw [hc, if_pos (by omega), gd_ib (by omega) (by omega), gd_nil, gd_ib (by omega) (by omega), gd_nil, gd_ib (by omega) (by omega), gd_nil, gd_ib (by omega) (by omega), gd_nil, hr v i v0, hr a i a0, w32_id (x := v + 1) (by omega) (by omega), w32_id (x := x + 1) (by omega) (by omega)]
    by_cases e : row v i = row a i
    · rw [if_pos e, ih q (x + 1) (v + 1) (by omega) (by omega) (by omega) (by omega) (by omega), cnt_t (decide_eq_true e), Int.add_assoc]
    · rw [if_neg e, ih q x (v + 1) (by omega) (by omega) (by omega) (by omega) (by omega), cnt_f (decide_eq_false e)]
theorem maC_L4 {row : Int → Int → Int} {c i : Int} {h : MH} {K : Int → MH → Option (Int × MH)} (hc : m_rd h 323 6 = c) (c0 : 0 ≤ c) (c7 : c ≤ 7) (i0 : 0 ≤ i) (i6 : i < 6) (hr : ∀ j k, 0 ≤ j → m_rd h (327 + j) k = row j k) : ∀ (m f : Nat) (x v : Int), m < f → v + m = c → 0 ≤ v → GX0_mostAlike_L4 i K f x v h = K (mxF (alC row c i) m v x) h := by
  intro m
  induction m with
  | zero =>
    intro f x v hf hv v0
    obtain ⟨q, rfl⟩ : ∃ q, f = q + 1 := ⟨f - 1, by omega⟩
    conv => lhs; unfold GX0_mostAlike_L4
    rw [hc, if_neg (by omega)]
    rfl
  | succ m ih =>
    intro f x v hf hv v0
    obtain ⟨q, rfl⟩ : ∃ q, f = q + 1 := ⟨f - 1, by omega⟩
    conv => lhs; unfold GX0_mostAlike_L4
    rw [hc, if_pos (by omega), w32_id (x := v + 1) (by omega) (by omega)]
    have L := maC_L18 (row := row) (u := x) (a := v) (K := fun w1 h2 => GX0_mostAlike_L4 i K q (m_mx x w1) (v + 1) h2) hc c7 i0 i6 v0 (by omega) hr c.toNat FU 0 0 (by unfold FU; omega) (by omega) (by omega) (by omega) (by omega)
    rw [L, Int.zero_add]
    exact ih q _ (v + 1) (by omega) (by omega) (by omega)
theorem mostAlike_ok {row : Int → Int → Int} {c i : Int} {h : MH} (hc : m_rd h 323 6 = c) (c0 : 0 ≤ c) (c7 : c ≤ 7) (i0 : 0 ≤ i) (i6 : i < 6) (hr : ∀ j k, 0 ≤ j → m_rd h (327 + j) k = row j k) : GX0_mostAlike i h = some (maC row c i, h) := by
  unfold GX0_mostAlike maC
  exact maC_L4 (K := fun w1 h2 => some (w1, h2)) hc c0 c7 i0 i6 hr c.toNat FU 0 0 (by unfold FU; omega) (by omega) (by omega)
theorem maC_b {row : Int → Int → Int} {c i : Int} (c0 : 0 ≤ c) : 0 ≤ maC row c i ∧ maC row c i ≤ c ∧ (0 < c → 1 ≤ maC row c i) := by
  have al : ∀ a, alC row c i a ≤ c := fun a => by
    have := (cntF_b (p := fun j => decide (row j i = row a i)) c.toNat 0).2
    unfold alC
    omega
  obtain ⟨a1, a2, a3⟩ := mxF_b (w := alC row c i) (B := c) c.toNat 0 0 c0 (fun j _ _ => al j)
  refine ⟨a1, a2, fun hc => ?_⟩
  have b := a3 0 (by omega) (by omega)
  have d : 1 ≤ alC row c i 0 := by
    unfold alC
    obtain ⟨m, hm⟩ : ∃ m, c.toNat = m + 1 := ⟨c.toNat - 1, by omega⟩
    rw [hm, cnt_t (decide_eq_true rfl)]
    have := (cntF_b (p := fun j => decide (row j i = row 0 i)) m (0 + 1)).1
    omega
  unfold maC
  omega
def skF (M : Int → Int) : Nat → Int → Int × Int → Int × Int
  | 0, _, b => b
  | m + 1, v, b => skF M m (v + 1) (if M v < b.2 then (v, M v) else b)
theorem skC_L {row : Int → Int → Int} {c n : Int} {K : MH → Option MH} (c0 : 0 ≤ c) (c7 : c ≤ 7) (n6 : n ≤ 6) : ∀ (m f : Nat) (v : Int) (b : Int × Int) (h : MH), m < f → v + m = n → 0 ≤ v → m_rd h 323 6 = c → (∀ j k, 0 ≤ j → m_rd h (327 + j) k = row j k) → m_rd h 323 4 = b.1 → m_rd h 323 7 = b.2 → ∃ h', GX0_seekSight_L16 n K f v h = K h' ∧ Fr (fun a j => a = 323 ∧ (j = 4 ∨ j = 7)) h h' ∧ m_rd h' 323 4 = (skF (maC row c) m v b).1 ∧ m_rd h' 323 7 = (skF (maC row c) m v b).2 := by
  intro m
  induction m with
  | zero =>
    intro f v b h hf hv v0 hc hr h4 h7
    obtain ⟨q, rfl⟩ : ∃ q, f = q + 1 := ⟨f - 1, by omega⟩
    conv => enter [1, h', 1, 1]; unfold GX0_seekSight_L16
    rw [if_neg (by omega)]
    exact ⟨h, rfl, Fr.rf, h4, h7⟩
  | succ m ih =>
    intro f v b h hf hv v0 hc hr h4 h7
    obtain ⟨q, rfl⟩ : ∃ q, f = q + 1 := ⟨f - 1, by omega⟩
    conv => enter [1, h', 1, 1]; unfold GX0_seekSight_L16
    rw [if_pos (by omega), mostAlike_ok hc c0 c7 v0 (by omega) hr, bd_some, h7, w32_id (x := v + 1) (by omega) (by omega)]
    by_cases e : maC row c v < b.2
    · rw [if_pos e, show skF (maC row c) (m + 1) v b = skF (maC row c) m (v + 1) (v, maC row c v) by show skF _ m (v + 1) (if _ then _ else _) = _; rw [if_pos e]]
      obtain ⟨h', e', F', a1, a2⟩ := ih q (v + 1) (v, maC row c v) (m_wr (m_wr h 323 7 (maC row c v)) 323 4 v) (by omega) (by omega) (by omega) (by simp (disch := omega) only [w32_id, rd_eq, rd_ne, cp_in, cp_out, lc_lt, lc_gt, lc_eq]; exact hc) (fun j k j0 => by simp (disch := omega) only [w32_id, rd_eq, rd_ne, cp_in, cp_out, lc_lt, lc_gt, lc_eq]; exact hr j k j0) (by simp (disch := omega) only [w32_id, rd_eq, rd_ne, cp_in, cp_out, lc_lt, lc_gt, lc_eq]) (by simp (disch := omega) only [w32_id, rd_eq, rd_ne, cp_in, cp_out, lc_lt, lc_gt, lc_eq])
      exact ⟨h', e', ((Fr.rf.wr (by omega)).wr (by omega)).tr F', a1, a2⟩
    · rw [if_neg e, show skF (maC row c) (m + 1) v b = skF (maC row c) m (v + 1) b by show skF _ m (v + 1) (if _ then _ else _) = _; rw [if_neg e]]
      exact ih q (v + 1) b h (by omega) (by omega) (by omega) hc hr h4 h7
theorem seekSight_ok {c n : Int} {h : MH} (hc : m_rd h 323 6 = c) (c0 : 0 ≤ c) (c7 : c ≤ 7) (n1 : 1 ≤ n) (n6 : n ≤ 6) : ∃ h', GX0_seekSight n h = some h' ∧ Fr (fun a j => a = 323 ∧ (j = 4 ∨ j = 7)) h h' ∧ m_rd h' 323 4 = (skF (maC (fun j k => m_rd h (327 + j) k) c) (n - 1).toNat 1 (0, maC (fun j k => m_rd h (327 + j) k) c 0)).1 ∧ m_rd h' 323 7 = (skF (maC (fun j k => m_rd h (327 + j) k) c) (n - 1).toNat 1 (0, maC (fun j k => m_rd h (327 + j) k) c 0)).2 := by
  unfold GX0_seekSight
  rw [mostAlike_ok (row := fun j k => m_rd h (327 + j) k) (c := c) (by simp (disch := omega) only [w32_id, rd_eq, rd_ne, cp_in, cp_out, lc_lt, lc_gt, lc_eq]; exact hc) c0 c7 (by omega) (by omega) (fun j k j0 => by simp (disch := omega) only [w32_id, rd_eq, rd_ne, cp_in, cp_out, lc_lt, lc_gt, lc_eq]), bd_some]
  obtain ⟨h', e', F', a1, a2⟩ := skC_L (row := fun j k => m_rd h (327 + j) k) (c := c) (n := n) (K := fun h3 => some h3) c0 c7 n6 (n - 1).toNat FU 1 (0, maC (fun j k => m_rd h (327 + j) k) c 0) (m_wr (m_wr h 323 4 0) 323 7 (maC (fun j k => m_rd h (327 + j) k) c 0)) (by unfold FU; omega) (by omega) (by omega) (by simp (disch := omega) only [w32_id, rd_eq, rd_ne, cp_in, cp_out, lc_lt, lc_gt, lc_eq]; exact hc) (fun j k j0 => by simp (disch := omega) only [w32_id, rd_eq, rd_ne, cp_in, cp_out, lc_lt, lc_gt, lc_eq]) (by simp (disch := omega) only [w32_id, rd_eq, rd_ne, cp_in, cp_out, lc_lt, lc_gt, lc_eq]) (by simp (disch := omega) only [w32_id, rd_eq, rd_ne, cp_in, cp_out, lc_lt, lc_gt, lc_eq])
  exact ⟨h', e', ((Fr.rf.wr (by omega)).wr (by omega)).tr F', a1, a2⟩
/-! the class: what is seen -/
noncomputable def luP (f : Int → Int × WF) (S : Int → Int) : Int → Bool := fun r => ruP f S (r - 1)
def luV (f : Int → Int × WF) (S : Int → Int) (n : Int) (r i : Int) : Int := itS (f (r - 1)).2 (n.toNat + 1) (beg S) (14 + i)
def SgR (f : Int → Int × WF) (S : Int → Int) (n : Int) (h : MH) (r : Nat) : Prop := m_rd h 323 6 = cntF (luP f S) r 0 ∧ ∀ s : Nat, s < r → luP f S s = true → ∀ i, 0 ≤ i → i < 6 → m_rd h (327 + cntF (luP f S) s 0) i = luV f S n s i
theorem SgR.cg {f : Int → Int × WF} {S : Int → Int} {n : Int} {h h' : MH} {r : Nat} {P : Int → Int → Prop} (R : SgR f S n h r) (F : Fr P h h') (no : ∀ a j, P a j → a < 323 ∨ 334 ≤ a) (r7 : r ≤ 7) : SgR f S n h' r := by
  refine ⟨by rw [F.rd (fun z => by have := no _ _ z; omega)]; exact R.1, fun s hs t i i0 i1 => ?_⟩
  have b := cntF_b (p := luP f S) s 0
  rw [F.rd (fun z => by have := no _ _ z; omega)]
  exact R.2 s hs t i i0 i1
theorem luC_L {h0 : MH} {n u : Int} {f : Int → Int × WF} {K : MH → Option (Int × MH)} (H : Inv h0) (A : AllR h0 f) (n0 : 0 ≤ n) (n1 : n ≤ 60) : ∀ (m g r : Nat) (h : MH), m < g → (r : Int) + m = m_rd h0 0 4 + 1 → RB h0 h (beg (m_rd h0 344)) → SgR f (m_rd h0 344) n h r → ∃ h', GX11_look_L59 n u K g ((r : Int) - 1) h = K h' ∧ Fr RunC h0 h' ∧ SgR f (m_rd h0 344) n h' (r + m) := by
  have rb := H.2.2.1
  have r6 := rb.2.2.1
  have w2 := H.2.2.2.1.2.2.1
  have kk := H.1.2.2
  intro m
  induction m with
  | zero =>
    intro g r h hf hv R Sg
    obtain ⟨q, rfl⟩ : ∃ q, g = q + 1 := ⟨g - 1, by omega⟩
    conv => enter [1, h', 1, 1]; unfold GX11_look_L59
    rw [R.1.rd (x := 0) (j := 4) (by unfold RunC; omega), if_neg (by omega)]
    exact ⟨h, rfl, R.1, Sg⟩
  | succ m ih =>
    intro g r h hf hv R Sg
    obtain ⟨q, rfl⟩ : ∃ q, g = q + 1 := ⟨g - 1, by omega⟩
    conv => enter [1, h', 1, 1]; unfold GX11_look_L59
    obtain ⟨h1, e1, R1, U1, F1⟩ := R.copy2 H
    obtain ⟨A1, A2, A3⟩ := A ((r : Int) - 1) (by omega) (by omega)
    obtain ⟨x, h4, e4, R4, x01, xi, F4⟩ := R1.agr2 H U1 A2
    have F14 : Fr StC h h4 := F1.tr F4
    have Sg4 : SgR f (m_rd h0 344) n h4 r := Sg.cg F14 (fun a j z => by unfold StC at z; omega) (by omega)
    rw [R.1.rd (x := 0) (j := 4) (by unfold RunC; omega), if_pos (by omega), e1, bv_some, A1 h1 (RunC.kr R1.1), bd_some, e4, bd_some, w32_id (x := (r : Int) - 1 + 1) (by omega) (by omega), w32_id (x := n + 1) (by omega) (by omega)]
    have nx : ∀ h5, RB h0 h5 (beg (m_rd h0 344)) → SgR f (m_rd h0 344) n h5 (r + 1) → ∃ h', GX11_look_L59 n u K q ((r : Int) - 1 + 1) h5 = K h' ∧ Fr RunC h0 h' ∧ SgR f (m_rd h0 344) n h' (r + (m + 1)) := by
      intro h5 R5 Sg5
      obtain ⟨h', e', F', Sg'⟩ := ih q (r + 1) h5 (by omega) (by omega) R5 Sg5
      rw [show ((r + 1 : Nat) : Int) - 1 = (r : Int) - 1 + 1 by omega] at e'
      rw [show r + 1 + m = r + (m + 1) by omega] at Sg'
      exact ⟨h', e', F', Sg'⟩
    by_cases c : x = 0
    · have pf : luP f (m_rd h0 344) r = false := dec_f (fun z => by have := xi.2 z; omega)
      rw [if_pos c]
      refine nx h4 R4 ⟨?_, fun s hs t i i0 i1 => ?_⟩
      · rw [cntF_last, show (0 : Int) + (r : Int) = (r : Int) by omega, if_neg (by rw [pf]; decide), Int.add_zero]
        exact Sg4.1
      · by_cases cs : s = r
        · rw [cs, pf] at t
          exact absurd t (by decide)
        · exact Sg4.2 s (by omega) t i i0 i1
    · have pt : luP f (m_rd h0 344) r = true := dec_t (xi.1 (by omega))
      obtain ⟨h6, e6, R6, U6, F6⟩ := R4.copy2 H
      obtain ⟨h9, S', B', e9, F9, R9, k9, W9⟩ := steps_L (r := (f ((r : Int) - 1)).1) (n := n + 1) (o := (f ((r : Int) - 1)).2) (K := fun h1 => some h1) (n.toNat + 1) FU 0 0 (beg (m_rd h0 344)) h6 (by unfold FU; omega) (by omega) (by omega) (by omega) U6 w2 (by omega) (A2.kr (RunC.kr R6.1))
      have RB9 : RB h0 h9 (beg (m_rd h0 344)) := R6.st F9 (fun a j z => by unfold StC at z; unfold RunC; omega)
      have Sg9 : SgR f (m_rd h0 344) n h9 r := (Sg4.cg F6 (fun a j z => by unfold StC at z; omega) (by omega)).cg F9 (fun a j z => by unfold StC at z; omega) (by omega)
      have cb := cntF_b (p := luP f (m_rd h0 344)) r 0
      obtain ⟨cc, hcc⟩ : ∃ cc, cc = cntF (luP f (m_rd h0 344)) r 0 := ⟨_, rfl⟩
      rw [← hcc] at cb
      have kc : ∀ z : Int, z = 320 ∨ (327 ≤ z ∧ z < 334) → h9.2.1 z = (1, 6) := by
        intro z hz
        rw [RB9.1.2.1]
        have hz' : z = 320 ∨ z = 327 ∨ z = 328 ∨ z = 329 ∨ z = 330 ∨ z = 331 ∨ z = 332 ∨ z = 333 := by omega
        rcases hz' with rfl | rfl | rfl | rfl | rfl | rfl | rfl | rfl
        · exact kk 320 (by decide)
        · exact kk 327 (by decide)
        · exact kk 328 (by decide)
        · exact kk 329 (by decide)
        · exact kk 330 (by decide)
        · exact kk 331 (by decide)
        · exact kk 332 (by decide)
        · exact kk 333 (by decide)
      have gc : GC h9 320 0 (327 + cc) 0 6 := by
        unfold GC m_kd m_ln
        rw [kc 320 (by omega), kc (327 + cc) (by omega)]
        decide
      have ea : GX0_addSight 320 h9 = some (m_wr (m_cpy h9 320 0 (327 + cc) 0 6) 323 6 (cc + 1)) := by
        unfold GX0_addSight
        rw [Sg9.1, ← hcc, if_pos (by omega), gd_ib (by omega) (by omega), gd_nil, gd_cons gc, gd_nil, cp_out (by omega), Sg9.1, ← hcc, w32_id (by omega) (by omega)]
      rw [if_neg c, e6, bv_some, A1 h6 (RunC.kr R6.1), bd_some, show GX7_steps (f ((r : Int) - 1)).1 (n + 1) h6 = some h9 from e9, bv_some, ea, bv_some]
      have F10 : Fr (fun a j => a = 327 + cc ∨ (a = 323 ∧ j = 6)) h9 (m_wr (m_cpy h9 320 0 (327 + cc) 0 6) 323 6 (cc + 1)) := (Fr.rf.cp (fun k _ _ => Or.inl rfl)).wr (Or.inr ⟨rfl, rfl⟩)
      refine nx _ (RB9.st F10 (fun a j z => by unfold RunC; omega)) ⟨?_, fun s hs t i i0 i1 => ?_⟩
      · rw [cntF_last, show (0 : Int) + (r : Int) = (r : Int) by omega, if_pos pt, rd_eq rfl rfl, hcc]
      · by_cases cs : s = r
        · rw [cs, ← hcc, rd_ne (by omega), cp_in rfl (by omega) (by omega), show (0 : Int) + (i - 0) = i by omega, R9.ly i i0 i1, k9 _ (by omega)]
          rfl
        · have lt := cnt_lt (q := luP f (m_rd h0 344)) (show s < r by omega) t
          have sb := cntF_b (p := luP f (m_rd h0 344)) s 0
          rw [F10.rd (by omega)]
          exact Sg9.2 s (by omega) t i i0 i1
/-! the reference: how many are alike -/
def alM (pr : Int → Bool) (V : Int → Int → Int) (N i a : Int) : Int := if pr a = true then cntF (fun b => pr b && decide (V a i = V b i)) (N + 1).toNat 0 else 0
theorem alM_L18 {pr : Int → Bool} {V : Int → Int → Int} {N i u a : Int} {h : MH} {K : Int → MH → Option (Int × MH)} (hN : m_rd h 334 2 = N) (N6 : N ≤ 6) (i0 : 0 ≤ i) (i6 : i < 6) (a0 : 0 ≤ a) (a1 : a ≤ N) (hp : ∀ r, 0 ≤ r → r ≤ N → (m_rd h 352 r = 0 ↔ pr r = false)) (hV : ∀ r, 0 ≤ r → r ≤ N → m_rd h 353 (6 * r + i) = V r i) (pa : pr a = true) : ∀ (m f : Nat) (x v : Int), m < f → v + m = N + 1 → 0 ≤ v → 0 ≤ x → x ≤ v → GX12_alikeAt_L18 i u a K f x v h = K (x + cntF (fun b => pr b && decide (V a i = V b i)) m v) h := by
  intro m
  induction m with
  | zero =>
    intro f x v hf hv v0 x0 x1
    obtain ⟨q, rfl⟩ : ∃ q, f = q + 1 := ⟨f - 1, by omega⟩
    conv => lhs; unfold GX12_alikeAt_L18
    rw [hN, if_pos (by omega), cntF_0, Int.add_zero]
  | succ m ih =>
    intro f x v hf hv v0 x0 x1
    obtain ⟨q, rfl⟩ : ∃ q, f = q + 1 := ⟨f - 1, by omega⟩
    conv => lhs; unfold GX12_alikeAt_L18
    rw [hN, if_neg (by omega), gd_ib (by omega) (by omega), gd_nil, if_neg (fun z => by have := (hp a a0 a1).1 z; rw [pa] at this; exact absurd this (by decide)), gd_ib (by omega) (by omega), gd_nil, w32_id (x := x + 0) (by omega) (by omega), Int.add_zero, w32_id (x := v + 1) (by omega) (by omega), w32_id (x := x + 1) (by omega) (by omega), w32_id (x := 6 * a) (by omega) (by omega), w32_id (x := 6 * a + i) (by omega) (by omega), w32_id (x := 6 * v) (by omega) (by omega), w32_id (x := 6 * v + i) (by omega) (by omega), hV a a0 a1, hV v v0 (by omega)]
    have q' := hp v v0 (by omega)
    cases c : pr v with
    | false =>
      rw [if_pos (q'.2 c), ih q x (v + 1) (by omega) (by omega) (by omega) (by omega) (by omega), cnt_f (by show (pr v && _) = false; rw [c]; rfl)]
    | true =>
      rw [if_neg (fun z => by have := q'.1 z; rw [c] at this; exact absurd this (by decide)), gd_ib (by omega) (by omega), gd_nil, gd_ib (by omega) (by omega), gd_nil]
      by_cases e : V a i = V v i
      · rw [if_pos e, ih q (x + 1) (v + 1) (by omega) (by omega) (by omega) (by omega) (by omega), cnt_t (by show (pr v && decide (V a i = V v i)) = true; rw [c, decide_eq_true e]; rfl), Int.add_assoc]
      · rw [if_neg e, ih q x (v + 1) (by omega) (by omega) (by omega) (by omega) (by omega), cnt_f (by show (pr v && decide (V a i = V v i)) = false; rw [c, decide_eq_false e]; rfl)]
theorem alM_18 {pr : Int → Bool} {V : Int → Int → Int} {N i u a : Int} {h : MH} {K : Int → MH → Option (Int × MH)} (hN : m_rd h 334 2 = N) (N0 : 0 ≤ N) (N6 : N ≤ 6) (i0 : 0 ≤ i) (i6 : i < 6) (a0 : 0 ≤ a) (a1 : a ≤ N) (hp : ∀ r, 0 ≤ r → r ≤ N → (m_rd h 352 r = 0 ↔ pr r = false)) (hV : ∀ r, 0 ≤ r → r ≤ N → m_rd h 353 (6 * r + i) = V r i) : GX12_alikeAt_L18 i u a K FU 0 0 h = K (alM pr V N i a) h := by
  unfold alM
  cases c : pr a with
  | true =>
    rw [if_pos rfl, alM_L18 (V := V) hN N6 i0 i6 a0 a1 hp hV c (N + 1).toNat FU 0 0 (by unfold FU; omega) (by omega) (by omega) (by omega) (by omega), Int.zero_add]
  | false =>
    rw [if_neg (by decide), show FU = 1999 + 1 from rfl]
    conv => lhs; unfold GX12_alikeAt_L18
    rw [hN, if_neg (by omega), gd_ib (by omega) (by omega), gd_nil, if_pos ((hp a a0 a1).2 c)]
theorem alM_L4 {pr : Int → Bool} {V : Int → Int → Int} {N i : Int} {h : MH} {K : Int → MH → Option (Int × MH)} (hN : m_rd h 334 2 = N) (N0 : 0 ≤ N) (N6 : N ≤ 6) (i0 : 0 ≤ i) (i6 : i < 6) (hp : ∀ r, 0 ≤ r → r ≤ N → (m_rd h 352 r = 0 ↔ pr r = false)) (hV : ∀ r, 0 ≤ r → r ≤ N → m_rd h 353 (6 * r + i) = V r i) : ∀ (m f : Nat) (x v : Int), m < f → v + m = N + 1 → 0 ≤ v → GX12_alikeAt_L4 i K f x v h = K (mxF (alM pr V N i) m v x) h := by
  intro m
  induction m with
  | zero =>
    intro f x v hf hv v0
    obtain ⟨q, rfl⟩ : ∃ q, f = q + 1 := ⟨f - 1, by omega⟩
    conv => lhs; unfold GX12_alikeAt_L4
    rw [hN, if_pos (by omega)]
    rfl
  | succ m ih =>
    intro f x v hf hv v0
    obtain ⟨q, rfl⟩ : ∃ q, f = q + 1 := ⟨f - 1, by omega⟩
    conv => lhs; unfold GX12_alikeAt_L4
    rw [hN, if_neg (by omega), w32_id (x := v + 1) (by omega) (by omega), alM_18 (pr := pr) (V := V) hN N0 N6 i0 i6 v0 (by omega) hp hV]
    show (if x < alM pr V N i v then _ else _) = K (mxF (alM pr V N i) m (v + 1) (m_mx x (alM pr V N i v))) h
    unfold m_mx
    by_cases c : x < alM pr V N i v
    · rw [if_pos c, if_pos c]
      exact ih q _ (v + 1) (by omega) (by omega) (by omega)
    · rw [if_neg c, if_neg c]
      exact ih q _ (v + 1) (by omega) (by omega) (by omega)
def maM (pr : Int → Bool) (V : Int → Int → Int) (N i : Int) : Int := mxF (alM pr V N i) (N + 1).toNat 0 0
theorem alikeAt_ok {pr : Int → Bool} {V : Int → Int → Int} {N i : Int} {h : MH} (hN : m_rd h 334 2 = N) (N0 : 0 ≤ N) (N6 : N ≤ 6) (i0 : 0 ≤ i) (i6 : i < 6) (hp : ∀ r, 0 ≤ r → r ≤ N → (m_rd h 352 r = 0 ↔ pr r = false)) (hV : ∀ r, 0 ≤ r → r ≤ N → m_rd h 353 (6 * r + i) = V r i) : GX12_alikeAt i h = some (maM pr V N i, h) := by
  unfold GX12_alikeAt maM
  exact alM_L4 (K := fun w1 h2 => some (w1, h2)) hN N0 N6 i0 i6 hp hV (N + 1).toNat FU 0 0 (by unfold FU; omega) (by omega) (by omega)
/-- class and reference count alike -/
theorem ma_eq {pr : Int → Bool} {V row : Int → Int → Int} {N i : Int} (N0 : 0 ≤ N) (hr : ∀ s : Nat, (s : Int) ≤ N → pr s = true → row (cntF pr s 0) i = V s i) : maC row (cntF pr (N + 1).toNat 0) i = maM pr V N i := by
  unfold maC maM
  refine (mx_idx (pr := pr) (N + 1).toNat (fun s hs ps => ?_) (fun s hs ps => ?_)).1
  · unfold alC alM
    rw [if_pos ps, hr s (by omega) ps]
    refine cnt_idx (N + 1).toNat (fun b hb pb => ?_)
    show decide (row (cntF pr b 0) i = V s i) = decide (V s i = V b i)
    rw [hr b (by omega) pb]
    by_cases e : V s i = V b i
    · rw [decide_eq_true e, decide_eq_true e.symm]
    · rw [decide_eq_false e, decide_eq_false (fun z => e z.symm)]
  · unfold alM
    rw [if_neg (by rw [ps]; decide)]
/-- the reference seeks -/
theorem lkM_L {M : Int → Int} {n u : Int} {h : MH} {K : Int → Int → MH → Option (Int × MH)} (hn : m_rd h 344 3 = n) (n6 : n ≤ 6) (hM : ∀ i, 0 ≤ i → i < n → GX12_alikeAt i h = some (M i, h)) (M1 : ∀ i, 0 ≤ i → i < n → 1 ≤ M i) : ∀ (m f : Nat) (v : Int) (b : Int × Int), m < f → v + m = n → 0 ≤ v → 0 ≤ b.1 → GX12_look_L46 u K f b.1 b.2 v h = K (skF M m v b).1 (skF M m v b).2 h := by
  intro m
  induction m with
  | zero =>
    intro f v b hf hv v0 b0
    obtain ⟨q, rfl⟩ : ∃ q, f = q + 1 := ⟨f - 1, by omega⟩
    conv => lhs; unfold GX12_look_L46
    rw [hn, if_neg (by omega)]
    rfl
  | succ m ih =>
    intro f v b hf hv v0 b0
    obtain ⟨q, rfl⟩ : ∃ q, f = q + 1 := ⟨f - 1, by omega⟩
    have m1 := M1 v v0 (by omega)
    conv => lhs; unfold GX12_look_L46
    rw [hn, if_pos (by omega), hM v v0 (by omega), bd_some, if_neg (by omega), if_neg (by omega), w32_id (x := v + 1) (by omega) (by omega)]
    by_cases e : M v < b.2
    · rw [if_pos e, show skF M (m + 1) v b = skF M m (v + 1) (v, M v) by show skF _ m (v + 1) (if _ then _ else _) = _; rw [if_pos e]]
      exact ih q (v + 1) (v, M v) (by omega) (by omega) (by omega) v0
    · rw [if_neg e, show skF M (m + 1) v b = skF M m (v + 1) b by show skF _ m (v + 1) (if _ then _ else _) = _; rw [if_neg e]]
      exact ih q (v + 1) b (by omega) (by omega) (by omega) b0
theorem lkM_0 {n u : Int} {h : MH} {K : Int → Int → MH → Option (Int × MH)} (hn : m_rd h 344 3 = n) (n6 : n ≤ 6) (hM : ∀ i, 0 ≤ i → i < n → GX12_alikeAt i h = some (0, h)) : ∀ (m f : Nat) (v a b : Int), m < f → v + m = n → 0 ≤ v → GX12_look_L46 u K f a b v h = K a b h := by
  intro m
  induction m with
  | zero =>
    intro f v a b hf hv v0
    obtain ⟨q, rfl⟩ : ∃ q, f = q + 1 := ⟨f - 1, by omega⟩
    conv => lhs; unfold GX12_look_L46
    rw [hn, if_neg (by omega)]
  | succ m ih =>
    intro f v a b hf hv v0
    obtain ⟨q, rfl⟩ : ∃ q, f = q + 1 := ⟨f - 1, by omega⟩
    conv => lhs; unfold GX12_look_L46
    rw [hn, if_pos (by omega), hM v v0 (by omega), bd_some, if_pos rfl, w32_id (x := v + 1) (by omega) (by omega)]
    exact ih q (v + 1) a b (by omega) (by omega) (by omega)
theorem skF_cg {M M' : Int → Int} : ∀ (m : Nat) (v : Int) (b : Int × Int), (∀ j, v ≤ j → j < v + m → M j = M' j) → skF M m v b = skF M' m v b := by
  intro m
  induction m with
  | zero =>
    intro v b _
    rfl
  | succ m ih =>
    intro v b h
    show skF M m (v + 1) (if M v < b.2 then (v, M v) else b) = skF M' m (v + 1) (if M' v < b.2 then (v, M' v) else b)
    rw [h v (by omega) (by omega), ih (v + 1) _ (fun j j0 j1 => h j (by omega) (by omega))]
theorem c_look (n u : Int) : Call (GX11_look n u) (GX12_look n u) := by
  intro h H
  obtain ⟨⟨d1, d2, d3, d4, d5, d6, d7⟩, w1, w2, w3, w4, w5, w6, w7⟩ := H.2.2.2.1
  have rb := H.2.2.1
  have bad : m_rd h 344 0 = 1 → ¬ (0 ≤ n ∧ n ≤ 60 ∧ 0 ≤ u ∧ u ≤ 1) → Wi (GX12_look n u h) (fun w h2 => -1 = w ∧ Inv h2) := by
    intro f1 c
    unfold GX12_look
    refine wi_be isFrame_ok (wi_in (by rw [t01]; exact fun z => z f1) (wi_be in_ok ?_))
    refine wi_it (fun _ => wi_ret ⟨rfl, H⟩) (fun q => wi_be in_ok (wi_ip ?_ (wi_ret ⟨rfl, H⟩)))
    rw [t01] at q ⊢
    omega
  unfold GX11_look
  refine wi_be (hasFrame_ok H) ?_
  by_cases f1 : m_rd h 344 0 = 1
  · refine wi_in (by rw [t01]; exact fun z => z f1) ?_
    by_cases n0 : n < 0
    · exact wi_ip n0 (wi_ret (bad f1 (by omega)))
    refine wi_in n0 ?_
    by_cases n1 : 60 < n
    · exact wi_ip n1 (wi_ret (bad f1 (by omega)))
    refine wi_in n1 ?_
    by_cases u0 : u < 0
    · exact wi_ip u0 (wi_ret (bad f1 (by omega)))
    refine wi_in u0 ?_
    by_cases u1 : 1 < u
    · exact wi_ip u1 (wi_ret (bad f1 (by omega)))
    refine wi_in u1 ?_
    have fw := frw w1.1 f1
    have r0 := rb.2.1
    have r6 := rb.2.2.1
    obtain ⟨h3, e3, F3, R3⟩ := runBegin H
    obtain ⟨f, A⟩ := all_R H
    have Fa : Fr (fun a j => a = 323 ∧ j = 6) h3 (m_wr h3 323 6 0) := Fr.wr Fr.rf ⟨rfl, rfl⟩
    have RBa : RB h (m_wr h3 323 6 0) (beg (m_rd h 344)) := RB.st (h := h3) ⟨F3, R3.1, R3.2.2.1⟩ Fa (fun a j z => by unfold RunC; omega)
    obtain ⟨h9, e9, F9, Sg⟩ := luC_L (n := n) (u := u) (f := f) (K := fun h4 => if m_rd h4 323 6 = 0 then some ((-2), h4) else bv (GX0_seekSight (m_rd h4 21 2) h4) (fun h5 => if u = 0 then some (m_rd h5 323 4, h5) else some (m_rd h5 323 7, h5))) H A (by omega) (by omega) (m_rd h 0 4 + 1).toNat FU 0 (m_wr h3 323 6 0) (by unfold FU; omega) (by omega) RBa ⟨rd_eq rfl rfl, fun s hs => by omega⟩
    rw [show ((0 : Nat) : Int) - 1 = -1 by omega] at e9
    rw [Nat.zero_add] at Sg
    refine wi_bw e3 (wi_rw e9 ?_)
    obtain ⟨c, hc⟩ : ∃ c, c = cntF (luP f (m_rd h 344)) (m_rd h 0 4 + 1).toNat 0 := ⟨_, rfl⟩
    have cb := cntF_b (p := luP f (m_rd h 344)) (m_rd h 0 4 + 1).toNat 0
    have s9 : m_rd h9 344 = m_rd h 344 := funext fun j => F9.rd (by unfold RunC; omega)
    have h92 : m_rd h9 21 2 = m_rd h 344 3 := by
      rw [F9.rd (by unfold RunC; omega)]
      exact H.sh.2.2.1
    have sc : m_rd h9 323 6 = c := by
      rw [Sg.1, hc]
    rw [← hc] at cb
    have meq : ∀ i, 0 ≤ i → i < m_rd h 344 3 → maC (fun j k => m_rd h9 (327 + j) k) c i = maM (luP f (m_rd h 344)) (luV f (m_rd h 344) n) (m_rd h 0 4) i := by
      intro i i0 i1
      rw [hc]
      exact ma_eq r0 (fun s hs ps => Sg.2 s (by omega) ps i i0 (by omega))
    -- the reference, from any heap that the class has left so
    have mod : ∀ g, Fr RunC h g → ∀ v, v = (if c = 0 then -2 else if u = 0 then (skF (maC (fun j k => m_rd h9 (327 + j) k) c) (m_rd h 344 3 - 1).toNat 1 (0, maC (fun j k => m_rd h9 (327 + j) k) c 0)).1 else (skF (maC (fun j k => m_rd h9 (327 + j) k) c) (m_rd h 344 3 - 1).toNat 1 (0, maC (fun j k => m_rd h9 (327 + j) k) c 0)).2) → Wi (GX12_look n u g) (fun w h2 => v = w ∧ Inv h2) := by
      intro g Fg v hv
      have sg : m_rd g 344 = m_rd h 344 := funext fun j => Fg.rd (by unfold RunC; omega)
      have Ig : Inv g := H.scr (Fg.wk (fun a j z => z.scr))
      obtain ⟨g5, x5, G5, done⟩ := fits_ok (t := n) H A Fg
      have I5 : Inv g5 := Ig.scr G5
      have n5 : m_rd g5 334 2 = m_rd h 0 4 := by
        rw [G5.rd (by unfold Scr; omega), Fg.rd (by unfold RunC; omega)]
        exact rb.1.symm
      have s5 : m_rd g5 344 = m_rd h 344 := by
        rw [← sg]
        exact funext fun j => G5.rd (by unfold Scr; omega)
      have al : ∀ i, 0 ≤ i → i < m_rd h 344 3 → GX12_alikeAt i g5 = some (maC (fun j k => m_rd h9 (327 + j) k) c i, g5) := by
        intro i i0 i1
        rw [meq i i0 i1]
        exact alikeAt_ok n5 r0 r6 i0 (by omega) (fun r q0 q1 => (done r q0 q1).p) (fun r q0 q1 => (done r q0 q1).2.2 (by omega) (by omega) i i0 i1)
      unfold GX12_look
      refine wi_be isFrame_ok (wi_in (by rw [t01, sg]; exact fun z => z f1) (wi_be in_ok (wi_in (by rw [t01]; omega) (wi_be in_ok (wi_in (by rw [t01]; omega) (wi_bw x5 ?_))))))
      by_cases c0 : c = 0
      · have al0 : ∀ i, 0 ≤ i → i < m_rd h 344 3 → GX12_alikeAt i g5 = some (0, g5) := by
          intro i i0 i1
          have b := maC_b (row := fun j k => m_rd h9 (327 + j) k) (i := i) cb.1
          rw [al i i0 i1, show maC (fun j k => m_rd h9 (327 + j) k) c i = 0 by omega]
        refine wi_rw (lkM_0 (n := m_rd h 344 3) (by rw [s5]) (by omega) al0 (m_rd h 344 3).toNat FU 0 (-2) (-2) (by unfold FU; omega) (by omega) (by omega)) ?_
        rw [hv, if_pos c0]
        exact wi_it (fun _ => wi_ret ⟨rfl, I5⟩) (fun _ => wi_ret ⟨rfl, I5⟩)
      · have b1 : ∀ i, 0 ≤ i → i < m_rd h 344 3 → 1 ≤ maC (fun j k => m_rd h9 (327 + j) k) c i := fun i _ _ => (maC_b (row := fun j k => m_rd h9 (327 + j) k) (i := i) cb.1).2.2 (by omega)
        have b10 := b1 0 (by omega) (by omega)
        rw [show FU = 1999 + 1 from rfl]
        conv => enter [1]; unfold GX12_look_L46
        rw [s5, if_pos (by omega), al 0 (by omega) (by omega), bd_some, if_neg (by omega), if_pos (by decide), w32_id (x := 0 + 1) (by omega) (by omega)]
        refine wi_rw (lkM_L (M := maC (fun j k => m_rd h9 (327 + j) k) c) (n := m_rd h 344 3) (by rw [s5]) (by omega) al b1 (m_rd h 344 3 - 1).toNat 1999 (0 + 1) (0, maC (fun j k => m_rd h9 (327 + j) k) c 0) (by omega) (by omega) (by omega) (by show (0 : Int) ≤ 0; omega)) ?_
        rw [hv, if_neg c0]
        refine wi_it (fun q => wi_ret ⟨?_, I5⟩) (fun q => wi_ret ⟨?_, I5⟩)
        · rw [if_pos q]
          rfl
        · rw [if_neg q]
          rfl
    rw [sc]
    by_cases c0 : c = 0
    · refine wi_ip c0 (wi_ret (mod h9 F9 _ ?_))
      rw [if_pos c0]
    · obtain ⟨h5, e5, F5, a4, a7⟩ := seekSight_ok (n := m_rd h 344 3) sc cb.1 (by omega) (by omega) (by omega)
      rw [h92]
      have F5' : Fr RunC h h5 := F9.tr (F5.wk (fun a j z => by unfold RunC; omega))
      refine wi_in c0 (wi_bw e5 ?_)
      refine wi_it (fun q => wi_ret (mod h5 F5' _ ?_)) (fun q => wi_ret (mod h5 F5' _ ?_))
      · rw [if_neg c0, if_pos q]
        exact a4
      · rw [if_neg c0, if_neg q]
        exact a7
  · refine wi_ip (by rw [t01]; exact f1) (wi_ret ?_)
    unfold GX12_look
    exact wi_be isFrame_ok (wi_ip (by rw [t01]; exact f1) (wi_ret ⟨rfl, H⟩))
