/-! idle, slips, worst -/
def idG (S : Int → Int) (v a : Int) : Int := if ent S v < 0 then a else m_band a (m_bxor (m_shl 1 (ent S v)) (-1))
theorem idle_C {g : MH} {S : Int → Int} {K : Int → MH → Option (Int × MH)} (D : Dr g S) (m f : Nat) (v a : Int) (hf : m < f) (hv : v + m = cod S) (v0 : 0 ≤ v) : GX1_idleEntries_L14 K f a v g = K (fld (idG S) m v a) g := by
  have cb := cod_b D.1
  refine (uploop (L := fun f b v => GX1_idleEntries_L14 K f b v g) (K := fun b => K b g) (g := idG S) (N := cod S) (I := fun _ _ => True) (fun f v b _ v0 v1 => ⟨?_, trivial⟩) (fun f b => ?_) m f v a hf hv v0 trivial).1
  · have eb := ent_b (c := v) D.2.1
    show GX1_idleEntries_L14 K (f + 1) b v g = _
    conv => lhs; unfold GX1_idleEntries_L14
    rw [D.2.2.1.1, gd_cons D.2.2.1.2.2.1, gd_nil, D.2.2.2.1.2.2.2.1, if_pos v1, D.ef v0 v1, bd_some, w32_id (x := v + 1) (by omega) (by omega)]
    unfold idG
    by_cases c : ent S v < 0
    · rw [if_pos (by omega), if_pos c]
    · rw [if_neg (by omega), if_neg c]
  · show GX1_idleEntries_L14 K (f + 1) b (cod S) g = _
    conv => lhs; unfold GX1_idleEntries_L14
    rw [D.2.2.1.1, gd_cons D.2.2.1.2.2.1, gd_nil, D.2.2.2.1.2.2.2.1, if_neg (by omega)]
theorem idle_M {g : MH} {S : Int → Int} {K : Int → MH → Option (Int × MH)} (D : Dr g S) (m f : Nat) (v a : Int) (hf : m < f) (hv : v + m = cod S) (v0 : 0 ≤ v) : GX12_idle_L23 K f a v g = K (fld (idG S) m v a) g := by
  have cb := cod_b D.1
  refine (uploop (L := fun f b v => GX12_idle_L23 K f b v g) (K := fun b => K b g) (g := idG S) (N := cod S) (I := fun _ _ => True) (fun f v b _ v0 v1 => ⟨?_, trivial⟩) (fun f b => ?_) m f v a hf hv v0 trivial).1
  · show GX12_idle_L23 K (f + 1) b v g = _
    conv => lhs; unfold GX12_idle_L23
    rw [D.cm, bd_some, if_pos v1, D.eo v0 (by omega), bd_some, D.eo v0 (by omega), bd_some, w32_id (x := v + 1) (by omega) (by omega)]
    unfold idG
    by_cases c : ent S v < 0
    · rw [if_pos c, if_pos c]
    · rw [if_neg c, if_neg c]
  · show GX12_idle_L23 K (f + 1) b (cod S) g = _
    conv => lhs; unfold GX12_idle_L23
    rw [D.cm, bd_some, if_neg (by omega)]
theorem c_idle : Call GX11_idle GX12_idle := by
  intro h H
  unfold GX11_idle
  refine wi_be (hasFrame_ok H) ?_
  by_cases c : m_rd h 344 0 = 1
  · obtain ⟨g, e, F, D, I⟩ := drawNow_ok H
    have cb := cod_b D.1
    have sg := D.2.2.2.2.2
    have p0 := D.2.2.2.2.1.1
    refine wi_in (by rw [t01]; exact fun z => z c) (wi_bw e (wi_bd ?_))
    unfold GX1_idleEntries
    rw [D.2.2.1.2.1, p0]
    refine wi_gc D.2.2.1.2.2.2.1 (wi_gn ?_)
    rw [idle_C D (cod (m_rd h 344)).toNat FU 0 _ (by unfold FU; omega) (by omega) (by omega)]
    refine wi_ret (wi_ret ?_)
    unfold GX12_idle
    refine wi_be isFrame_ok (wi_in (by rw [t01, sg]; exact fun z => z c) ?_)
    rw [idle_M D (cod (m_rd h 344)).toNat FU 0 _ (by unfold FU; omega) (by omega) (by omega), sg]
    exact wi_ret ⟨rfl, I⟩
  · refine wi_ip (by rw [t01]; exact c) (wi_ret ?_)
    unfold GX12_idle
    exact wi_be isFrame_ok (wi_ip (by rw [t01]; exact c) (wi_ret ⟨rfl, H⟩))
/-! slips -/
/-- the code with no digit at the place of this weight -/
def pln (S : Int → Int) (c by' : Int) : Int := c - c / by' % S 1 * by'
/-- slips at one place -/
def sl1 (S : Int → Int) (c by' : Int) (v a : Int) : Int := if hol S (pln S c by' + v * by') = hol S c then a else a + 1
theorem dig {c w r u : Int} (w1 : 1 ≤ w) (r1 : 1 ≤ r) (u0 : 0 ≤ u) (c0 : 0 ≤ c) (c1 : c < u * (w * r)) : 0 ≤ c / w % r ∧ c / w % r < r ∧ 0 ≤ c / w % r * w ∧ c / w % r * w ≤ c ∧ ∀ d, 0 ≤ d → d < r → c - c / w % r * w + d * w < u * (w * r) ∧ 0 ≤ d * w ∧ d * w + w ≤ w * r := by
  have m0 := Int.emod_nonneg (c / w) (show r ≠ 0 by omega)
  have m1 := Int.emod_lt_of_pos (c / w) (show 0 < r by omega)
  have a1 := Int.mul_ediv_add_emod c w
  have a2 := Int.mul_ediv_add_emod (c / w) r
  have a3 := Int.emod_nonneg c (show w ≠ 0 by omega)
  have a4 := Int.emod_lt_of_pos c (show 0 < w by omega)
  have q0 : 0 ≤ c / w := Int.ediv_nonneg c0 (by omega)
  have q1 : 0 ≤ c / w / r := Int.ediv_nonneg q0 (by omega)
  generalize c / w / r = H at *
  generalize c / w % r = dg at *
  have b1 : w * (c / w) = w * (r * H) + dg * w := by
    rw [← a2, Int.mul_add, Int.mul_comm w dg]
  have b2 : u * (w * r) = w * (r * u) := by
    rw [Int.mul_comm u, Int.mul_assoc]
  have b3 : 0 ≤ dg * w := Int.mul_nonneg m0 (by omega)
  have b4 : 0 ≤ w * (r * H) := Int.mul_nonneg (by omega) (Int.mul_nonneg (by omega) q1)
  have hH : H < u := by
    by_cases hu : H < u
    · exact hu
    · exfalso
      have z1 : r * u ≤ r * H := Int.mul_le_mul_of_nonneg_left (by omega) (by omega)
      have z2 : w * (r * u) ≤ w * (r * H) := Int.mul_le_mul_of_nonneg_left z1 (by omega)
      omega
  have z1 : r * (H + 1) ≤ r * u := Int.mul_le_mul_of_nonneg_left (by omega) (by omega)
  have z2 : w * (r * (H + 1)) ≤ w * (r * u) := Int.mul_le_mul_of_nonneg_left z1 (by omega)
  rw [Int.mul_add, Int.mul_one, Int.mul_add] at z2
  refine ⟨m0, m1, b3, by omega, fun d d0 d1 => ?_⟩
  have z3 : w * (d + 1) ≤ w * r := Int.mul_le_mul_of_nonneg_left (by omega) (by omega)
  rw [Int.mul_add, Int.mul_one, Int.mul_comm w d] at z3
  have z4 : 0 ≤ d * w := Int.mul_nonneg d0 (by omega)
  exact ⟨by omega, z4, z3⟩
theorem pw_le {b m n : Int} (b1 : 1 ≤ b) (m0 : 0 ≤ m) (mn : m ≤ n) : pw b m ≤ pw b n := by
  have pa := pw_add (b := b) (m := m) (n := n - m) m0 (by omega)
  rw [show m + (n - m) = n by omega] at pa
  rw [← pa]
  have p1 := pw_p (b := b) (n := m) b1
  have p2 := pw_p (b := b) (n := n - m) b1
  have := Int.mul_le_mul_of_nonneg_left p2 (show 0 ≤ pw b m by omega)
  rw [Int.mul_one] at this
  exact this
theorem pln_b {S : Int → Int} {c k : Int} (F : WfF S) (f1 : S 0 = 1) (c0 : 0 ≤ c) (c1 : c < cod S) (k0 : 0 ≤ k) (k1 : k < S 2) : (1 ≤ pw (S 1) k ∧ pw (S 1) k ≤ 256) ∧ (0 ≤ c / pw (S 1) k ∧ c / pw (S 1) k ≤ c) ∧ (0 ≤ c / pw (S 1) k % S 1 ∧ c / pw (S 1) k % S 1 < S 1) ∧ (0 ≤ c / pw (S 1) k % S 1 * pw (S 1) k ∧ c / pw (S 1) k % S 1 * pw (S 1) k ≤ c) ∧ (0 ≤ pln S c (pw (S 1) k) ∧ pln S c (pw (S 1) k) ≤ c) ∧ ∀ d, 0 ≤ d → d < S 1 → (0 ≤ pln S c (pw (S 1) k) + d * pw (S 1) k ∧ pln S c (pw (S 1) k) + d * pw (S 1) k < cod S) ∧ 0 ≤ d * pw (S 1) k ∧ d * pw (S 1) k ≤ 1024 := by
  have fw := frw F f1
  have cb := cod_b F
  have pp := pw_p (b := S 1) (n := k) (by omega)
  have pa := pw_add (b := S 1) (m := S 2 - (k + 1)) (n := k + 1) (by omega) (by omega)
  rw [show S 2 - (k + 1) + (k + 1) = S 2 by omega, pw_s k0] at pa
  have hc : cod S = pw (S 1) (S 2) := by
    unfold cod
    rw [if_pos f1]
  have p2 := pw_p (b := S 1) (n := S 2 - (k + 1)) (by omega)
  have pl := pw_le (b := S 1) (m := k) (n := S 2) (by omega) k0 (by omega)
  have pb := pw_b (b := S 1) (n := k + 1) (by omega) (by omega) (by omega) (by omega)
  rw [pw_s k0] at pb
  obtain ⟨e1, e2, e3, e4, e5⟩ := dig (c := c) (w := pw (S 1) k) (r := S 1) (u := pw (S 1) (S 2 - (k + 1))) pp (by omega) (by omega) c0 (by omega)
  unfold pln
  refine ⟨by omega, ⟨Int.ediv_nonneg c0 (by omega), Int.ediv_le_self _ c0⟩, ⟨e1, e2⟩, ⟨e3, e4⟩, by omega, fun d d0 d1 => ?_⟩
  obtain ⟨g1, g2, g3⟩ := e5 d d0 d1
  omega
theorem sl_C {g : MH} {S : Int → Int} {c k u4 : Int} {K : Int → MH → Option (Int × MH)} (D : Dr g S) (f1 : S 0 = 1) (c0 : 0 ≤ c) (c1 : c < cod S) (k0 : 0 ≤ k) (k1 : k < S 2) (m f : Nat) (v a : Int) (hf : m < f) (hv : v + m = S 1) (v0 : 0 ≤ v) (a0 : 0 ≤ a) (a1 : a ≤ 1000 + v) : GX1_slipsOf_L56 c (hol S c) u4 (pw (S 1) k) (pln S c (pw (S 1) k)) K f a v g = K (fld (sl1 S c (pw (S 1) k)) m v a) g ∧ 0 ≤ fld (sl1 S c (pw (S 1) k)) m v a ∧ fld (sl1 S c (pw (S 1) k)) m v a ≤ 1000 + S 1 := by
  have cb := cod_b D.1
  have fw := frw D.1 f1
  obtain ⟨b1, b2, b3, b4, b5, b6⟩ := pln_b D.1 f1 c0 c1 k0 k1
  refine uploop (L := fun f b v => GX1_slipsOf_L56 c (hol S c) u4 (pw (S 1) k) (pln S c (pw (S 1) k)) K f b v g) (K := fun b => K b g) (g := sl1 S c (pw (S 1) k)) (N := S 1) (I := fun v b => 0 ≤ b ∧ b ≤ 1000 + v) (fun f v b ib v0 v1 => ⟨?_, ?_⟩) (fun f b => ?_) m f v a hf hv v0 ⟨a0, a1⟩
  · obtain ⟨⟨x1, x2⟩, x3, x4⟩ := b6 v v0 v1
    show GX1_slipsOf_L56 c (hol S c) u4 (pw (S 1) k) (pln S c (pw (S 1) k)) K (f + 1) b v g = _
    conv => lhs; unfold GX1_slipsOf_L56
    rw [D.2.2.1.1, gd_cons D.2.2.1.2.2.1, gd_nil, D.2.2.2.1.1, if_pos v1, w32_id (x := v * pw (S 1) k) (by omega) (by omega), w32_id (x := pln S c (pw (S 1) k) + v * pw (S 1) k) (by omega) (by omega), D.hf x1 x2, bd_some, w32_id (x := v + 1) (by omega) (by omega), w32_id (x := b + 1) (by omega) (by omega)]
    unfold sl1
    by_cases q : hol S (pln S c (pw (S 1) k) + v * pw (S 1) k) = hol S c
    · rw [if_pos q, if_pos q]
    · rw [if_neg q, if_neg q]
  · show 0 ≤ sl1 S c (pw (S 1) k) v b ∧ sl1 S c (pw (S 1) k) v b ≤ 1000 + (v + 1)
    unfold sl1
    split <;> omega
  · show GX1_slipsOf_L56 c (hol S c) u4 (pw (S 1) k) (pln S c (pw (S 1) k)) K (f + 1) b (S 1) g = _
    conv => lhs; unfold GX1_slipsOf_L56
    rw [D.2.2.1.1, gd_cons D.2.2.1.2.2.1, gd_nil, D.2.2.2.1.1, if_neg (by omega)]
theorem sl_M {g : MH} {S : Int → Int} {c k u3 : Int} {K : Int → MH → Option (Int × MH)} (D : Dr g S) (f1 : S 0 = 1) (c0 : 0 ≤ c) (c1 : c < cod S) (k0 : 0 ≤ k) (k1 : k < S 2) (m f : Nat) (v a : Int) (hf : m < f) (hv : v + m = S 1) (v0 : 0 ≤ v) (a0 : 0 ≤ a) (a1 : a ≤ 1000 + v) : GX12_slipsOf_L47 c u3 (pw (S 1) k) (pln S c (pw (S 1) k)) K f a v g = K (fld (sl1 S c (pw (S 1) k)) m v a) g ∧ 0 ≤ fld (sl1 S c (pw (S 1) k)) m v a ∧ fld (sl1 S c (pw (S 1) k)) m v a ≤ 1000 + S 1 := by
  have cb := cod_b D.1
  have fw := frw D.1 f1
  have sg := D.2.2.2.2.2
  obtain ⟨b1, b2, b3, b4, b5, b6⟩ := pln_b D.1 f1 c0 c1 k0 k1
  refine uploop (L := fun f b v => GX12_slipsOf_L47 c u3 (pw (S 1) k) (pln S c (pw (S 1) k)) K f b v g) (K := fun b => K b g) (g := sl1 S c (pw (S 1) k)) (N := S 1) (I := fun v b => 0 ≤ b ∧ b ≤ 1000 + v) (fun f v b ib v0 v1 => ⟨?_, ?_⟩) (fun f b => ?_) m f v a hf hv v0 ⟨a0, a1⟩
  · obtain ⟨⟨x1, x2⟩, x3, x4⟩ := b6 v v0 v1
    show GX12_slipsOf_L47 c u3 (pw (S 1) k) (pln S c (pw (S 1) k)) K (f + 1) b v g = _
    conv => lhs; unfold GX12_slipsOf_L47
    rw [sg, if_pos v1, w32_id (x := v * pw (S 1) k) (by omega) (by omega), w32_id (x := pln S c (pw (S 1) k) + v * pw (S 1) k) (by omega) (by omega), D.ho x1 (by omega), bd_some, D.ho c0 (by omega), bd_some, w32_id (x := v + 1) (by omega) (by omega), w32_id (x := b + 1) (by omega) (by omega), w32_id (x := b + 0) (by omega) (by omega), Int.add_zero]
    unfold sl1
    by_cases q : hol S (pln S c (pw (S 1) k) + v * pw (S 1) k) = hol S c
    · rw [if_pos q, if_pos q]
    · rw [if_neg q, if_neg q]
  · show 0 ≤ sl1 S c (pw (S 1) k) v b ∧ sl1 S c (pw (S 1) k) v b ≤ 1000 + (v + 1)
    unfold sl1
    split <;> omega
  · show GX12_slipsOf_L47 c u3 (pw (S 1) k) (pln S c (pw (S 1) k)) K (f + 1) b (S 1) g = _
    conv => lhs; unfold GX12_slipsOf_L47
    rw [sg, if_neg (by omega)]
/-- slips at one place, all of them -/
def slp (S : Int → Int) (c k : Int) : Int := fld (sl1 S c (pw (S 1) k)) (S 1).toNat 0 0
theorem fld_add {S : Int → Int} {c w : Int} : ∀ (m : Nat) (v a : Int), fld (sl1 S c w) m v a = a + fld (sl1 S c w) m v 0 ∧ 0 ≤ fld (sl1 S c w) m v 0 ∧ fld (sl1 S c w) m v 0 ≤ m := by
  intro m
  induction m with
  | zero =>
    intro v a
    show a = a + 0 ∧ (0 : Int) ≤ 0 ∧ (0 : Int) ≤ ((0 : Nat) : Int)
    omega
  | succ m ih =>
    intro v a
    show fld (sl1 S c w) m (v + 1) (sl1 S c w v a) = a + fld (sl1 S c w) m (v + 1) (sl1 S c w v 0) ∧ 0 ≤ fld (sl1 S c w) m (v + 1) (sl1 S c w v 0) ∧ fld (sl1 S c w) m (v + 1) (sl1 S c w v 0) ≤ ((m + 1 : Nat) : Int)
    have h1 := ih (v + 1) (sl1 S c w v a)
    have h2 := ih (v + 1) (sl1 S c w v 0)
    have h3 : sl1 S c w v a = a + sl1 S c w v 0 ∧ 0 ≤ sl1 S c w v 0 ∧ sl1 S c w v 0 ≤ 1 := by
      unfold sl1
      split <;> omega
    omega
/-- slips at places k to k + m - 1, by weight -/
def slpF (S : Int → Int) (c : Int) : Nat → Int → Int
  | 0, _ => 0
  | m + 1, k => slp S c k + slpF S c m (k + 1)
theorem slp_b {S : Int → Int} {c k : Int} (F : WfF S) : 0 ≤ slp S c k ∧ slp S c k ≤ 4 := by
  have := fld_add (S := S) (c := c) (w := pw (S 1) k) (S 1).toNat 0 0
  have fb := F.b
  unfold slp
  omega
theorem slpF_b {S : Int → Int} {c : Int} (F : WfF S) : ∀ (m : Nat) (k : Int), 0 ≤ slpF S c m k ∧ slpF S c m k ≤ 4 * m := by
  intro m
  induction m with
  | zero =>
    intro k
    exact ⟨Int.le_refl _, Int.le_refl _⟩
  | succ m ih =>
    intro k
    have h1 := ih (k + 1)
    have h2 := slp_b (c := c) (k := k) F
    show 0 ≤ slp S c k + slpF S c m (k + 1) ∧ slp S c k + slpF S c m (k + 1) ≤ 4 * ((m + 1 : Nat) : Int)
    omega
theorem slpF_s {S : Int → Int} {c : Int} : ∀ (m : Nat) (k : Int), slpF S c (m + 1) k = slpF S c m k + slp S c (k + m) := by
  intro m
  induction m with
  | zero =>
    intro k
    show slp S c k + 0 = 0 + slp S c (k + (0 : Nat))
    rw [Int.add_zero, Int.zero_add]
    congr 1
    omega
  | succ m ih =>
    intro k
    show slp S c k + slpF S c (m + 1) (k + 1) = slp S c k + slpF S c m (k + 1) + slp S c (k + ((m + 1 : Nat) : Int))
    rw [ih (k + 1), show k + 1 + (m : Int) = k + ((m + 1 : Nat) : Int) by omega, Int.add_assoc]
/-- all slips of a code -/
def slA (S : Int → Int) (c : Int) : Int := slpF S c (S 2).toNat 0
theorem sl_M4 {g : MH} {S : Int → Int} {c : Int} {K : Int → MH → Option (Int × MH)} (D : Dr g S) (f1 : S 0 = 1) (c0 : 0 ≤ c) (c1 : c < cod S) : ∀ (m f : Nat) (k a : Int), m < f → k + m = S 2 → 0 ≤ k → 0 ≤ a → a ≤ 4 * k → GX12_slipsOf_L4 c K f a k g = K (a + slpF S c m k) g := by
  have cb := cod_b D.1
  have fw := frw D.1 f1
  have sg := D.2.2.2.2.2
  intro m
  induction m with
  | zero =>
    intro f k a hf hv k0 a0 a1
    obtain ⟨q, rfl⟩ : ∃ q, f = q + 1 := ⟨f - 1, by omega⟩
    conv => lhs; unfold GX12_slipsOf_L4
    rw [sg, if_neg (by omega)]
    show K a g = K (a + 0) g
    rw [Int.add_zero]
  | succ m ih =>
    intro f k a hf hv k0 a0 a1
    obtain ⟨q, rfl⟩ : ∃ q, f = q + 1 := ⟨f - 1, by omega⟩
    obtain ⟨b1, b2, b3, b4, b5, b6⟩ := pln_b D.1 f1 c0 c1 k0 (by omega)
    conv => lhs; unfold GX12_slipsOf_L4
    rw [sg, if_pos (by omega), power_ok (by omega) (by omega) k0 (by omega), bd_some, sg, gd_cons (by omega), gd_nil, gd_cons (by omega), gd_nil, Int.tdiv_eq_ediv_of_nonneg c0, w32_id (x := c / pw (S 1) k) (by omega) (by omega), Int.tmod_eq_emod_of_nonneg b2.1, w32_id (x := c / pw (S 1) k % S 1 * pw (S 1) k) (by omega) (by omega), w32_id (x := c - c / pw (S 1) k % S 1 * pw (S 1) k) (by omega) (by omega)]
    have L := sl_M (u3 := k) (K := fun w3 h4 => GX12_slipsOf_L4 c K q w3 (m_w32 (k + 1)) h4) D f1 c0 c1 k0 (by omega) (S 1).toNat FU 0 a (by unfold FU; omega) (by omega) (by omega) a0 (by omega)
    have fa := fld_add (S := S) (c := c) (w := pw (S 1) k) (S 1).toNat 0 a
    have sb := slp_b (c := c) (k := k) D.1
    unfold pln at L
    rw [L.1, fa.1, w32_id (by omega) (by omega)]
    show GX12_slipsOf_L4 c K q (a + slp S c k) (k + 1) g = K (a + (slp S c k + slpF S c m (k + 1))) g
    rw [ih q (k + 1) (a + slp S c k) (by omega) (by omega) (by omega) (by omega) (by omega), Int.add_assoc]
theorem digitOf_C {t c p : Int} {S : Int → Int} {h : MH} (R : ShR h t S) (F : WfF S) (f1 : S 0 = 1) (c0 : 0 ≤ c) (c1 : c < cod S) (p0 : 0 ≤ p) (p1 : p < S 2) : GX8_digitOf t c p h = some (c / pw (S 1) (S 2 - 1 - p) % S 1, h) := by
  have fw := frw F f1
  have cb := cod_b F
  have pp := pw_p (b := S 1) (n := S 2 - 1 - p) (by omega)
  have d0 : 0 ≤ c / pw (S 1) (S 2 - 1 - p) := Int.ediv_nonneg c0 (by omega)
  have d1 : c / pw (S 1) (S 2 - 1 - p) ≤ c := Int.ediv_le_self _ c0
  unfold GX8_digitOf
  rw [w32_id (by omega) (by omega), spanOf_ok R f1 (by omega) (by omega) (by omega), bd_some, show S 2 - (p + 1) = S 2 - 1 - p by omega, if_neg (by omega), R.1, if_neg (by omega), gd_cons (by omega), gd_cons (by omega), gd_nil, Int.tdiv_eq_ediv_of_nonneg c0, w32_id (by omega) (by omega), Int.tmod_eq_emod_of_nonneg d0]
theorem sl_C11 {g : MH} {S : Int → Int} {c : Int} {K : Int → MH → Option (Int × MH)} (D : Dr g S) (f1 : S 0 = 1) (c0 : 0 ≤ c) (c1 : c < cod S) : ∀ (m f : Nat) (p a : Int), m < f → p + m = S 2 → 0 ≤ p → 0 ≤ a → a ≤ 4 * p → GX1_slipsOf_L11 c (hol S c) K f a p g = K (a + slpF S c m 0) g := by
  have cb := cod_b D.1
  have fw := frw D.1 f1
  intro m
  induction m with
  | zero =>
    intro f p a hf hv k0 a0 a1
    obtain ⟨q, rfl⟩ : ∃ q, f = q + 1 := ⟨f - 1, by omega⟩
    conv => lhs; unfold GX1_slipsOf_L11
    rw [D.2.2.1.1, gd_cons D.2.2.1.2.2.1, gd_nil, D.2.2.2.1.2.1, if_neg (by omega)]
    show K a g = K (a + 0) g
    rw [Int.add_zero]
  | succ m ih =>
    intro f p a hf hv k0 a0 a1
    obtain ⟨q, rfl⟩ : ∃ q, f = q + 1 := ⟨f - 1, by omega⟩
    obtain ⟨b1, b2, b3, b4, b5, b6⟩ := pln_b (k := S 2 - 1 - p) D.1 f1 c0 c1 (by omega) (by omega)
    conv => lhs; unfold GX1_slipsOf_L11
    rw [D.2.2.1.1, gd_cons D.2.2.1.2.2.1, gd_nil, D.2.2.2.1.2.1, if_pos (by omega), gd_cons D.2.2.1.2.2.1, gd_nil, w32_id (x := p + 1) (by omega) (by omega), spanOf_ok D.2.2.2.1 f1 (by omega) (by omega) (by omega), bd_some, D.2.2.1.1, gd_cons D.2.2.1.2.2.1, gd_nil, digitOf_C D.2.2.2.1 D.1 f1 c0 c1 k0 (by omega), bd_some, show S 2 - (p + 1) = S 2 - 1 - p by omega, w32_id (x := c / pw (S 1) (S 2 - 1 - p) % S 1 * pw (S 1) (S 2 - 1 - p)) (by omega) (by omega), w32_id (x := c - c / pw (S 1) (S 2 - 1 - p) % S 1 * pw (S 1) (S 2 - 1 - p)) (by omega) (by omega)]
    have L := sl_C (k := S 2 - 1 - p) (u4 := p) (K := fun w5 h6 => GX1_slipsOf_L11 c (hol S c) K q w5 (p + 1) h6) D f1 c0 c1 (by omega) (by omega) (S 1).toNat FU 0 a (by unfold FU; omega) (by omega) (by omega) a0 (by omega)
    have fa := fld_add (S := S) (c := c) (w := pw (S 1) (S 2 - 1 - p)) (S 1).toNat 0 a
    have sb := slp_b (c := c) (k := S 2 - 1 - p) D.1
    unfold pln at L
    rw [L.1, fa.1, slpF_s, show (0 : Int) + (m : Int) = S 2 - 1 - p by omega]
    show GX1_slipsOf_L11 c (hol S c) K q (a + slp S c (S 2 - 1 - p)) (p + 1) g = _
    rw [ih q (p + 1) (a + slp S c (S 2 - 1 - p)) (by omega) (by omega) (by omega) (by omega) (by omega)]
    congr 1
    omega
theorem slips_C {g : MH} {S : Int → Int} {c : Int} (D : Dr g S) (f1 : S 0 = 1) (c0 : 0 ≤ c) (c1 : c < cod S) : GX1_slipsOf c g = some (slA S c, g) := by
  have fw := frw D.1 f1
  have q := sl_C11 (K := fun w3 h4 => some (w3, h4)) D f1 c0 c1 (S 2).toNat FU 0 0 (by unfold FU; omega) (by omega) (by omega) (by omega) (by omega)
  rw [Int.zero_add] at q
  unfold GX1_slipsOf slA
  rw [D.hf c0 c1, bd_some]
  exact q
theorem slips_M {g : MH} {S : Int → Int} {c : Int} (D : Dr g S) (f1 : S 0 = 1) (c0 : 0 ≤ c) (c1 : c < cod S) : GX12_slipsOf c g = some (slA S c, g) := by
  have fw := frw D.1 f1
  have q := sl_M4 (K := fun w1 h2 => some (w1, h2)) D f1 c0 c1 (S 2).toNat FU 0 0 (by unfold FU; omega) (by omega) (by omega) (by omega) (by omega)
  rw [Int.zero_add] at q
  unfold GX12_slipsOf slA
  exact q
theorem slA_b {S : Int → Int} {c : Int} (F : WfF S) : 0 ≤ slA S c ∧ slA S c ≤ 16 := by
  have := slpF_b (c := c) F (S 2).toNat 0
  have fb := F.b
  unfold slA
  omega
theorem c_slips (n : Int) : Call (GX11_slips n) (GX12_slips n) := by
  intro h H
  obtain ⟨⟨d1, d2, d3, d4, d5, d6, d7⟩, w1, w2, w3, w4, w5, w6, w7⟩ := H.2.2.2.1
  have cb := cod_b w1.1
  unfold GX11_slips
  refine wi_be (hasCode_ok (t := 21) d1) ?_
  by_cases c : 0 ≤ n ∧ n < cod (m_rd h 344)
  · obtain ⟨g, e, F, D, I⟩ := drawNow_ok H
    have sg := D.2.2.2.2.2
    have f1 := cb.2.2.1 (by omega)
    refine wi_in (by rw [t01]; exact fun z => z c) (wi_bw e (wi_be (slips_C D f1 c.1 c.2) (wi_ret ?_)))
    unfold GX12_slips
    exact wi_be (isCode_ok (by rw [sg]; exact w1.1)) (wi_in (by rw [t01, sg]; exact fun z => z c) (wi_be (slips_M D f1 c.1 c.2) (wi_ret ⟨rfl, I⟩)))
  · refine wi_ip (by rw [t01]; exact c) (wi_ret ?_)
    unfold GX12_slips
    exact wi_be (isCode_ok w1.1) (wi_ip (by rw [t01]; exact c) (wi_ret ⟨rfl, H⟩))
