/-! BY WHICH ENTRY A CODE GOES -/
def prf (S : Int → Int) (c d : Int) : Int := c / pw (S 1) (S 2 - d)
def entG (S : Int → Int) (c : Int) : Nat → Int
  | 0 => -1
  | n + 1 => if S (47 + 3 * (n : Int)) = prf S c (S (46 + 3 * (n : Int))) ∧ (entG S c n < 0 ∨ S (46 + 3 * entG S c n) < S (46 + 3 * (n : Int))) then (n : Int) else entG S c n
def ent (S : Int → Int) (c : Int) : Int := entG S c (S 13).toNat
def hol (S : Int → Int) (c : Int) : Int := if ent S c < 0 then -1 else S (48 + 3 * ent S c)
def Mt (S : Int → Int) (c i : Int) : Prop := S (47 + 3 * i) = prf S c (S (46 + 3 * i))
theorem entG_b {S : Int → Int} {c : Int} : ∀ n : Nat, -1 ≤ entG S c n ∧ entG S c n < n ∧ (0 ≤ entG S c n → Mt S c (entG S c n)) ∧ (∀ i : Int, 0 ≤ i → i < n → Mt S c i → 0 ≤ entG S c n ∧ S (46 + 3 * i) ≤ S (46 + 3 * entG S c n)) := by
  intro n
  induction n with
  | zero =>
    show -1 ≤ (-1 : Int) ∧ (-1 : Int) < ((0 : Nat) : Int) ∧ (0 ≤ (-1 : Int) → _) ∧ ∀ i : Int, 0 ≤ i → i < ((0 : Nat) : Int) → _
    exact ⟨by omega, by omega, fun z => by omega, fun i i0 i1 => by omega⟩
  | succ n ih =>
    obtain ⟨a1, a2, a3, a4⟩ := ih
    by_cases c1 : S (47 + 3 * (n : Int)) = prf S c (S (46 + 3 * (n : Int))) ∧ (entG S c n < 0 ∨ S (46 + 3 * entG S c n) < S (46 + 3 * (n : Int)))
    · rw [show entG S c (n + 1) = (n : Int) from if_pos c1]
      refine ⟨by omega, by omega, fun _ => c1.1, fun i i0 i1 im => ?_⟩
      by_cases ci : i = n
      · rw [ci]
        omega
      · have := a4 i i0 (by omega) im
        omega
    · rw [show entG S c (n + 1) = entG S c n from if_neg c1]
      refine ⟨a1, by omega, a3, fun i i0 i1 im => ?_⟩
      by_cases ci : i = n
      · subst ci
        have : ¬ (entG S c n < 0 ∨ S (46 + 3 * entG S c n) < S (46 + 3 * (n : Int))) := fun z => c1 ⟨im, z⟩
        omega
      · exact a4 i i0 (by omega) im
theorem ent_b {S : Int → Int} {c : Int} (E : WfE S) : -1 ≤ ent S c ∧ ent S c < S 13 ∧ (0 ≤ ent S c → Mt S c (ent S c)) ∧ (∀ i : Int, 0 ≤ i → i < S 13 → Mt S c i → 0 ≤ ent S c ∧ S (46 + 3 * i) ≤ S (46 + 3 * ent S c)) := by
  have n0 := E.1.1
  obtain ⟨a1, a2, a3, a4⟩ := entG_b (S := S) (c := c) (S 13).toNat
  unfold ent
  exact ⟨a1, by omega, a3, fun i i0 i1 => a4 i i0 (by omega)⟩
/-- the longest that fits is one -/
theorem ent_u {S : Int → Int} {c x : Int} (E : WfE S) (x0 : 0 ≤ x) (x1 : x < S 13) (xm : Mt S c x) (xx : ∀ i, 0 ≤ i → i < S 13 → Mt S c i → S (46 + 3 * i) ≤ S (46 + 3 * x)) : ent S c = x := by
  obtain ⟨a1, a2, a3, a4⟩ := ent_b (c := c) E
  obtain ⟨b1, b2⟩ := a4 x x0 x1 xm
  have b3 := xx (ent S c) b1 a2 (a3 b1)
  have e1 : S (46 + 3 * x) = S (46 + 3 * ent S c) := by omega
  have e2 : S (47 + 3 * x) = S (47 + 3 * ent S c) := by
    rw [xm, a3 b1, e1]
  by_cases h1 : x < ent S c
  · exact (E.2.2 x (ent S c) x0 h1 a2 e1 e2).elim
  by_cases h2 : ent S c < x
  · exact (E.2.2 (ent S c) x b1 h2 x1 e1.symm e2.symm).elim
  omega
theorem ent_n {S : Int → Int} {c : Int} (E : WfE S) (no : ∀ i, 0 ≤ i → i < S 13 → ¬ Mt S c i) : ent S c = -1 := by
  obtain ⟨a1, a2, a3, a4⟩ := ent_b (c := c) E
  by_cases h : 0 ≤ ent S c
  · exact absurd (a3 h) (no _ h a2)
  · omega
theorem fr13 {S : Int → Int} (F : WfF S) (n : 0 < S 13) : S 0 = 1 := by
  rcases F with q | q
  · exact q.1
  · omega
theorem frw {S : Int → Int} (F : WfF S) (n : S 0 = 1) : 2 ≤ S 1 ∧ S 1 ≤ 4 ∧ 1 ≤ S 2 ∧ S 2 ≤ 4 ∧ 1 ≤ S 3 ∧ S 3 ≤ 6 := by
  rcases F with q | q
  · omega
  · omega
theorem prf_b {S : Int → Int} {c d : Int} (c0 : 0 ≤ c) (s1 : 1 ≤ S 1) : 0 ≤ prf S c d ∧ prf S c d ≤ c := by
  have := pw_p (b := S 1) (n := S 2 - d) s1
  unfold prf
  exact ⟨Int.ediv_nonneg c0 (by omega), Int.ediv_le_self _ c0⟩
theorem prefixOf_ok {c d : Int} {h : MH} (F : WfF (m_rd h 344)) (f1 : m_rd h 344 0 = 1) (c0 : 0 ≤ c) (c1 : c ≤ 100000) (d0 : 0 ≤ d) (d1 : d ≤ m_rd h 344 2) : GX12_prefixOf c d h = some (prf (m_rd h 344) c d, h) := by
  have fw := frw F f1
  have pp := pw_p (b := m_rd h 344 1) (n := m_rd h 344 2 - d) (by omega)
  have pb := prf_b (S := m_rd h 344) (c := c) (d := d) c0 (by omega)
  unfold GX12_prefixOf
  rw [w32_id (by omega) (by omega), power_ok (by omega) (by omega) (by omega) (by omega), bd_some, gd_cons (by omega), gd_nil, Int.tdiv_eq_ediv_of_nonneg c0]
  unfold prf at *
  rw [w32_id (by omega) (by omega)]
theorem entryOf_L {c : Int} {K : Int → MH → Option (Int × MH)} {h : MH} {N : Nat} (F : WfF (m_rd h 344)) (E : WfE (m_rd h 344)) (hN : m_rd h 344 13 = N) (c0 : 0 ≤ c) (c1 : c ≤ 100000) : ∀ (m f v : Nat), m < f → v + m = N → GX12_entryOf_L4 c K f (entG (m_rd h 344) c v) v h = K (entG (m_rd h 344) c N) h := by
  have n12 := E.1.2
  intro m
  induction m with
  | zero =>
    intro f v hf hv
    obtain ⟨g, rfl⟩ : ∃ g, f = g + 1 := ⟨f - 1, by omega⟩
    conv => lhs; unfold GX12_entryOf_L4
    rw [if_neg (by omega), show v = N by omega]
  | succ m ih =>
    intro f v hf hv
    obtain ⟨g, rfl⟩ : ∃ g, f = g + 1 := ⟨f - 1, by omega⟩
    conv => lhs; unfold GX12_entryOf_L4
    obtain ⟨b1, b2, b3, b4⟩ := entG_b (S := m_rd h 344) (c := c) v
    obtain ⟨x1, x2, x3, x4, x5, x6⟩ := E.2.1 v (by omega) (by omega)
    have i1 := ih g (v + 1) (by omega) (by omega)
    rw [show ((v + 1 : Nat) : Int) = (v : Int) + 1 by omega] at i1
    rw [if_pos (by omega), w32_id (x := 3 * (v : Int)) (by omega) (by omega), w32_id (x := 46 + 3 * (v : Int)) (by omega) (by omega), w32_id (x := 46 + 3 * (v : Int) + 1) (by omega) (by omega), gd_ib (by omega) (by omega), gd_nil, gd_ib (by omega) (by omega), gd_nil, prefixOf_ok F (fr13 F (by omega)) c0 c1 x1 x2, bd_some, w32_id (x := (v : Int) + 1) (by omega) (by omega), show 46 + 3 * (v : Int) + 1 = 47 + 3 * (v : Int) by omega]
    by_cases q1 : m_rd h 344 (47 + 3 * (v : Int)) = prf (m_rd h 344) c (m_rd h 344 (46 + 3 * (v : Int)))
    · rw [if_pos q1]
      by_cases q2 : entG (m_rd h 344) c v < 0
      · rw [if_pos q2]
        rw [show entG (m_rd h 344) c (v + 1) = (v : Int) from if_pos ⟨q1, Or.inl q2⟩] at i1
        exact i1
      · rw [if_neg q2, w32_id (x := 3 * entG (m_rd h 344) c v) (by omega) (by omega), w32_id (x := 46 + 3 * entG (m_rd h 344) c v) (by omega) (by omega), gd_ib (by omega) (by omega), gd_nil, gd_ib (by omega) (by omega), gd_nil]
        by_cases q3 : m_rd h 344 (46 + 3 * entG (m_rd h 344) c v) < m_rd h 344 (46 + 3 * (v : Int))
        · rw [if_pos q3]
          rw [show entG (m_rd h 344) c (v + 1) = (v : Int) from if_pos ⟨q1, Or.inr q3⟩] at i1
          exact i1
        · rw [if_neg q3]
          rw [show entG (m_rd h 344) c (v + 1) = entG (m_rd h 344) c v from if_neg (fun z => z.2.elim q2 q3)] at i1
          exact i1
    · rw [if_neg q1]
      rw [show entG (m_rd h 344) c (v + 1) = entG (m_rd h 344) c v from if_neg (fun z => q1 z.1)] at i1
      exact i1
theorem entryOf_ok {c : Int} {h : MH} (F : WfF (m_rd h 344)) (E : WfE (m_rd h 344)) (c0 : 0 ≤ c) (c1 : c ≤ 100000) : GX12_entryOf c h = some (ent (m_rd h 344) c, h) := by
  have n0 := E.1
  unfold GX12_entryOf ent
  exact entryOf_L (K := fun w1 h2 => some (w1, h2)) (N := (m_rd h 344 13).toNat) F E (by omega) c0 c1 (m_rd h 344 13).toNat FU 0 (by unfold FU; omega) (by omega)
theorem holeOf_ok {c : Int} {h : MH} (F : WfF (m_rd h 344)) (E : WfE (m_rd h 344)) (c0 : 0 ≤ c) (c1 : c ≤ 100000) : GX12_holeOf c h = some (hol (m_rd h 344) c, h) := by
  have n0 := E.1
  have eb := ent_b (c := c) E
  unfold GX12_holeOf hol
  rw [entryOf_ok F E c0 c1, bd_some]
  by_cases q : ent (m_rd h 344) c < 0
  · rw [if_pos q, if_pos q]
  · rw [if_neg q, if_neg q, w32_id (x := 3 * ent (m_rd h 344) c) (by omega) (by omega), w32_id (x := 46 + 3 * ent (m_rd h 344) c) (by omega) (by omega), w32_id (by omega) (by omega), gd_ib (by omega) (by omega), gd_nil, show 46 + 3 * ent (m_rd h 344) c + 2 = 48 + 3 * ent (m_rd h 344) c by omega]
theorem hol_b {S : Int → Int} {c : Int} (E : WfE S) : -1 ≤ hol S c ∧ (hol S c = -1 ↔ ent S c = -1) ∧ (hol S c ≠ -1 → 0 ≤ hol S c ∧ hol S c < S 3) := by
  obtain ⟨a1, a2, a3, a4⟩ := ent_b (c := c) E
  unfold hol
  by_cases q : ent S c < 0
  · rw [if_pos q]
    omega
  · rw [if_neg q]
    have := E.2.1 (ent S c) (by omega) a2
    omega
/-! THE CHART -/
theorem pw_add {b m n : Int} (m0 : 0 ≤ m) (n0 : 0 ≤ n) : pw b m * pw b n = pw b (m + n) := by
  unfold pw
  rw [show (m + n).toNat = m.toNat + n.toNat by omega, Int.pow_add]
theorem mt_iff {S : Int → Int} {c i : Int} (s1 : 1 ≤ S 1) : Mt S c i ↔ S (47 + 3 * i) * pw (S 1) (S 2 - S (46 + 3 * i)) ≤ c ∧ c < S (47 + 3 * i) * pw (S 1) (S 2 - S (46 + 3 * i)) + pw (S 1) (S 2 - S (46 + 3 * i)) := by
  have pp := pw_p (b := S 1) (n := S 2 - S (46 + 3 * i)) s1
  unfold Mt prf
  generalize pw (S 1) (S 2 - S (46 + 3 * i)) = s at pp ⊢
  generalize S (47 + 3 * i) = p
  have h1 : p ≤ c / s ↔ p * s ≤ c := Int.le_ediv_iff_mul_le (by omega)
  have h2 : c / s < p + 1 ↔ c < (p + 1) * s := Int.ediv_lt_iff_lt_mul (by omega)
  rw [Int.add_mul, Int.one_mul] at h2
  omega
theorem span_b {S : Int → Int} {i : Int} (F : WfF S) (E : WfE S) (i0 : 0 ≤ i) (i1 : i < S 13) : 1 ≤ pw (S 1) (S 2 - S (46 + 3 * i)) ∧ pw (S 1) (S 2 - S (46 + 3 * i)) ≤ 1024 ∧ 0 ≤ S (47 + 3 * i) * pw (S 1) (S 2 - S (46 + 3 * i)) ∧ S (47 + 3 * i) * pw (S 1) (S 2 - S (46 + 3 * i)) + pw (S 1) (S 2 - S (46 + 3 * i)) ≤ cod S := by
  have f1 := fr13 F (by omega)
  have fw := frw F f1
  obtain ⟨x1, x2, x3, x4, x5, x6⟩ := E.2.1 i i0 i1
  have pp := pw_p (b := S 1) (n := S 2 - S (46 + 3 * i)) (by omega)
  have pb := pw_b (b := S 1) (n := S 2 - S (46 + 3 * i)) (by omega) (by omega) (by omega) (by omega)
  have pa := pw_add (b := S 1) (m := S (46 + 3 * i)) (n := S 2 - S (46 + 3 * i)) x1 (by omega)
  rw [show S (46 + 3 * i) + (S 2 - S (46 + 3 * i)) = S 2 by omega] at pa
  unfold cod
  rw [if_pos f1, ← pa]
  refine ⟨pp, pb.2, Int.mul_nonneg x3 (by omega), ?_⟩
  have := Int.mul_le_mul_of_nonneg_right (show S (47 + 3 * i) + 1 ≤ pw (S 1) (S (46 + 3 * i)) by omega) (show 0 ≤ pw (S 1) (S 2 - S (46 + 3 * i)) by omega)
  rw [Int.add_mul, Int.one_mul] at this
  exact this
theorem TO.fr {P : Int → Int → Prop} {h h' : MH} {a : Int} {c : Nat} (T : TO h a c) (F : Fr P h h') : TO h' a c := by
  unfold TO m_kd at *
  rw [F.1, F.2.1]
  exact T
theorem spanOf_ok {t d : Int} {S : Int → Int} {h : MH} (R : ShR h t S) (f1 : S 0 = 1) (s2 : S 2 ≤ 4) (d0 : 0 ≤ d) (d1 : d ≤ S 2) : GX8_spanOf t d h = some (pw (S 1) (S 2 - d), h) := by
  unfold GX8_spanOf
  rw [R.2.1, w32_id (by omega) (by omega), if_neg (by omega), if_neg (by omega), gd_ib (by omega) (by omega), gd_nil, R.2.2.2.2.1 _ (by omega) (by omega), if_pos f1]
def Fx (a _j : Int) : Prop := a = 306
theorem lay_L {e s p : Int} {K : MH → Option MH} (p0 : 0 ≤ p) (s0 : 0 ≤ s) (ps : p + s ≤ 256) : ∀ (m f : Nat) (v : Int) (h : MH), m < f → v + m = p + s → p ≤ v → ∃ h', GX1_lay_L32 e s p K f v h = K h' ∧ Fr Fx h h' ∧ (∀ c, v ≤ c → c < p + s → m_rd h' 306 c = e) ∧ ∀ c, ¬ (v ≤ c ∧ c < p + s) → m_rd h' 306 c = m_rd h 306 c := by
  intro m
  induction m with
  | zero =>
    intro f v h hf hv v0
    obtain ⟨g, rfl⟩ : ∃ g, f = g + 1 := ⟨f - 1, by omega⟩
    conv => enter [1, h', 1, 1]; unfold GX1_lay_L32
    rw [w32_id (by omega) (by omega), if_neg (by omega)]
    exact ⟨h, rfl, Fr.rf, fun c z1 z2 => by omega, fun c z => rfl⟩
  | succ m ih =>
    intro f v h hf hv v0
    obtain ⟨g, rfl⟩ : ∃ g, f = g + 1 := ⟨f - 1, by omega⟩
    conv => enter [1, h', 1, 1]; unfold GX1_lay_L32
    rw [w32_id (x := p + s) (by omega) (by omega), if_pos (by omega), if_pos (by omega), gd_ib (by omega) (by omega), gd_nil, w32_id (by omega) (by omega)]
    obtain ⟨h', x, F, q1, q2⟩ := ih g (v + 1) (m_wr h 306 v e) (by omega) (by omega) (by omega)
    refine ⟨h', x, Fr.tr (Fr.wr Fr.rf rfl) F, fun c z1 z2 => ?_, fun c z => ?_⟩
    · by_cases cv : c = v
      · rw [q2 c (by omega), rd_eq rfl cv]
      · exact q1 c (by omega) z2
    · rw [q2 c (by omega), rd_ne (by omega)]
theorem lay_ok {t1 t2 e : Int} {S : Int → Int} {h : MH} (F : WfF S) (E : WfE S) (R1 : ShR h t1 S) (R2 : PlR h t2 S) (T1 : TO h t1 8) (T2 : TO h t2 4) (c0 : m_rd h 298 0 = t1) (c1 : m_rd h 298 1 = t2) (e0 : 0 ≤ e) (e1 : e < S 13) : ∃ h', GX1_lay e h = some h' ∧ Fr Fx h h' ∧ (∀ c, Mt S c e → m_rd h' 306 c = e) ∧ ∀ c, ¬ Mt S c e → m_rd h' 306 c = m_rd h 306 c := by
  have f1 := fr13 F (by omega)
  have fw := frw F f1
  have n12 := E.1.2
  obtain ⟨x1, x2, x3, x4, x5, x6⟩ := E.2.1 e e0 e1
  obtain ⟨q1, q2, q3⟩ := R2.2 e e0 e1
  obtain ⟨b1, b2, b3, b4⟩ := span_b F E e0 e1
  have cb := cod_b F
  have mi := fun c => mt_iff (S := S) (c := c) (i := e) (by omega)
  unfold GX1_lay
  rw [c0, c1, gd_cons T2, gd_nil, gd_ib (by omega) (by omega), gd_nil, gd_cons T1, gd_nil, q1, spanOf_ok R1 f1 (by omega) x1 x2, bd_some, c1, gd_cons T2, gd_nil, gd_ib (by omega) (by omega), gd_nil, q2, w32_id (by omega) (by omega)]
  obtain ⟨h', x, Fh, y1, y2⟩ := lay_L (e := e) (s := pw (S 1) (S 2 - S (46 + 3 * e))) (p := S (47 + 3 * e) * pw (S 1) (S 2 - S (46 + 3 * e))) (K := fun h5 => some h5) b3 (by omega) (by omega) (pw (S 1) (S 2 - S (46 + 3 * e))).toNat FU (S (47 + 3 * e) * pw (S 1) (S 2 - S (46 + 3 * e))) h (by unfold FU; omega) (by omega) (by omega)
  refine ⟨h', x, Fh, fun c z => ?_, fun c z => ?_⟩
  · rw [mi] at z
    exact y1 c z.1 z.2
  · rw [mi] at z
    exact y2 c z
/-- entries that were laid already: those of fewer digits, and of so many the first e -/
def Ins (S : Int → Int) (d e i : Int) : Prop := 0 ≤ i ∧ i < S 13 ∧ (S (46 + 3 * i) < d ∨ (S (46 + 3 * i) = d ∧ i < e))
def Gd (S : Int → Int) (d e c x : Int) : Prop := (x = -1 ∧ ∀ i, Ins S d e i → ¬ Mt S c i) ∨ (Ins S d e x ∧ Mt S c x ∧ ∀ i, Ins S d e i → Mt S c i → S (46 + 3 * i) ≤ S (46 + 3 * x))
theorem Gd.cg {S : Int → Int} {d e d' e' c x : Int} (H : Gd S d e c x) (i1 : ∀ i, Ins S d e i → Ins S d' e' i) (i2 : ∀ i, Ins S d' e' i → Mt S c i → Ins S d e i) : Gd S d' e' c x := by
  rcases H with ⟨a, b⟩ | ⟨a, b, c⟩
  · exact Or.inl ⟨a, fun i z m => b i (i2 i z m) m⟩
  · exact Or.inr ⟨i1 x a, b, fun i z m => c i (i2 i z m) m⟩
theorem draw59 {t1 t2 d : Int} {S : Int → Int} {h0 : MH} {K : MH → Option MH} (F : WfF S) (E : WfE S) (R1 : ShR h0 t1 S) (R2 : PlR h0 t2 S) (T1 : TO h0 t1 8) (T2 : TO h0 t2 4) (c0 : m_rd h0 298 0 = t1) (c1 : m_rd h0 298 1 = t2) (o1 : t1 + 3 ≤ 298 ∨ 310 ≤ t1) (o2 : t2 + 4 ≤ 298 ∨ 310 ≤ t2) : ∀ (m f : Nat) (v : Int) (h : MH), m < f → v + m = S 13 → 0 ≤ v → Fr Fx h0 h → (∀ c, 0 ≤ c → c < cod S → Gd S d v c (m_rd h 306 c)) → ∃ h', GX1_draw_L59 d K f v h = K h' ∧ Fr Fx h0 h' ∧ ∀ c, 0 ≤ c → c < cod S → Gd S d (S 13) c (m_rd h' 306 c) := by
  have n12 := E.1.2
  intro m
  induction m with
  | zero =>
    intro f v h hf hv v0 Fh G
    obtain ⟨g, rfl⟩ : ∃ g, f = g + 1 := ⟨f - 1, by omega⟩
    have y1 : m_rd h 298 1 = t2 := by rw [Fh.rd (by unfold Fx; omega)]; exact c1
    have y2 : m_rd h t2 0 = S 13 := by rw [Fh.rd (by unfold Fx; omega)]; exact R2.1
    conv => enter [1, h', 1, 1]; unfold GX1_draw_L59
    rw [y1, gd_cons (T2.fr Fh), gd_nil, y2, if_neg (by omega), show S 13 = v by omega]
    exact ⟨h, rfl, Fh, G⟩
  | succ m ih =>
    intro f v h hf hv v0 Fh G
    obtain ⟨g, rfl⟩ : ∃ g, f = g + 1 := ⟨f - 1, by omega⟩
    have y0 : m_rd h 298 0 = t1 := by rw [Fh.rd (by unfold Fx; omega)]; exact c0
    have y1 : m_rd h 298 1 = t2 := by rw [Fh.rd (by unfold Fx; omega)]; exact c1
    have R2' : PlR h t2 S := R2.cg (fun a j z1 z2 => Fh.rd (by unfold Fx; omega))
    have R1' : ShR h t1 S := R1.cg (fun a j z1 z2 => Fh.rd (by unfold Fx; omega))
    obtain ⟨q1, q2, q3⟩ := R2'.2 v v0 (by omega)
    conv => enter [1, h', 1, 1]; unfold GX1_draw_L59
    rw [y1, gd_cons (T2.fr Fh), gd_nil, R2'.1, if_pos (by omega), gd_cons (T2.fr Fh), gd_nil, gd_ib (by omega) (by omega), gd_nil, q1, w32_id (by omega) (by omega)]
    by_cases cd : S (46 + 3 * v) = d
    · rw [if_pos cd]
      obtain ⟨h1, x, F1, z1, z2⟩ := lay_ok F E R1' R2' (T1.fr Fh) (T2.fr Fh) y0 y1 v0 (by omega)
      rw [x, bv_some]
      refine ih g (v + 1) h1 (by omega) (by omega) (by omega) (Fh.tr F1) (fun c k0 k1 => ?_)
      by_cases mc : Mt S c v
      · rw [z1 c mc]
        exact Or.inr ⟨⟨v0, by omega, by omega⟩, mc, fun i zi _ => by unfold Ins at zi; omega⟩
      · rw [z2 c mc]
        refine (G c k0 k1).cg (fun i zi => by unfold Ins at *; omega) (fun i zi mi => ?_)
        by_cases ci : i = v
        · rw [ci] at mi
          exact absurd mi mc
        · unfold Ins at *
          omega
    · rw [if_neg cd]
      refine ih g (v + 1) h (by omega) (by omega) (by omega) Fh (fun c k0 k1 => ?_)
      refine (G c k0 k1).cg (fun i zi => by unfold Ins at *; omega) (fun i zi mi => ?_)
      by_cases ci : i = v
      · subst ci
        unfold Ins at *
        omega
      · unfold Ins at *
        omega
theorem draw45 {t1 t2 : Int} {S : Int → Int} {h0 : MH} {K : MH → Option MH} (F : WfF S) (E : WfE S) (R1 : ShR h0 t1 S) (R2 : PlR h0 t2 S) (T1 : TO h0 t1 8) (T2 : TO h0 t2 4) (c0 : m_rd h0 298 0 = t1) (c1 : m_rd h0 298 1 = t2) (o1 : t1 + 3 ≤ 298 ∨ 310 ≤ t1) (o2 : t2 + 4 ≤ 298 ∨ 310 ≤ t2) : ∀ (m f : Nat) (d : Int) (h : MH), m < f → d + m = S 2 + 1 → 0 ≤ d → Fr Fx h0 h → (∀ c, 0 ≤ c → c < cod S → Gd S d 0 c (m_rd h 306 c)) → ∃ h', GX1_draw_L45 K f d h = K h' ∧ Fr Fx h0 h' ∧ ∀ c, 0 ≤ c → c < cod S → Gd S (S 2 + 1) 0 c (m_rd h' 306 c) := by
  have n12 := E.1
  have fb := F.b
  intro m
  induction m with
  | zero =>
    intro f d h hf hv v0 Fh G
    obtain ⟨g, rfl⟩ : ∃ g, f = g + 1 := ⟨f - 1, by omega⟩
    have y0 : m_rd h 298 0 = t1 := by rw [Fh.rd (by unfold Fx; omega)]; exact c0
    have R1' : ShR h t1 S := R1.cg (fun a j z1 z2 => Fh.rd (by unfold Fx; omega))
    conv => enter [1, h', 1, 1]; unfold GX1_draw_L45
    rw [y0, gd_cons (T1.fr Fh), gd_nil, R1'.2.1, if_pos (by omega), show S 2 + 1 = d by omega]
    exact ⟨h, rfl, Fh, G⟩
  | succ m ih =>
    intro f d h hf hv v0 Fh G
    obtain ⟨g, rfl⟩ : ∃ g, f = g + 1 := ⟨f - 1, by omega⟩
    have y0 : m_rd h 298 0 = t1 := by rw [Fh.rd (by unfold Fx; omega)]; exact c0
    have R1' : ShR h t1 S := R1.cg (fun a j z1 z2 => Fh.rd (by unfold Fx; omega))
    conv => enter [1, h', 1, 1]; unfold GX1_draw_L45
    rw [y0, gd_cons (T1.fr Fh), gd_nil, R1'.2.1, if_neg (by omega), w32_id (by omega) (by omega)]
    obtain ⟨h1, x, F1, G1⟩ := draw59 (d := d) (K := fun h1 => GX1_draw_L45 K g (d + 1) h1) F E R1 R2 T1 T2 c0 c1 o1 o2 (S 13).toNat FU 0 h (by unfold FU; omega) (by omega) (by omega) Fh G
    rw [x]
    refine ih g (d + 1) h1 (by omega) (by omega) (by omega) F1 (fun c k0 k1 => ?_)
    exact (G1 c k0 k1).cg (fun i zi => by unfold Ins at *; omega) (fun i zi mi => by unfold Ins at *; omega)
theorem draw12 {t1 : Int} {S : Int → Int} {h0 : MH} {K : MH → Option MH} (F : WfF S) (R1 : ShR h0 t1 S) (T1 : TO h0 t1 8) (c0 : m_rd h0 298 0 = t1) (o1 : t1 + 3 ≤ 298 ∨ 310 ≤ t1) : ∀ (m f : Nat) (v : Int) (h : MH), m < f → v + m = cod S → 0 ≤ v → Fr Fx h0 h → (∀ c, 0 ≤ c → c < v → m_rd h 306 c = -1) → ∃ h', GX1_draw_L12 K f v h = K h' ∧ Fr Fx h0 h' ∧ ∀ c, 0 ≤ c → c < cod S → m_rd h' 306 c = -1 := by
  have cb := cod_b F
  intro m
  induction m with
  | zero =>
    intro f v h hf hv v0 Fh G
    obtain ⟨g, rfl⟩ : ∃ g, f = g + 1 := ⟨f - 1, by omega⟩
    have y0 : m_rd h 298 0 = t1 := by rw [Fh.rd (by unfold Fx; omega)]; exact c0
    have R1' : ShR h t1 S := R1.cg (fun a j z1 z2 => Fh.rd (by unfold Fx; omega))
    conv => enter [1, h', 1, 1]; unfold GX1_draw_L12
    rw [y0, gd_cons (T1.fr Fh), gd_nil, R1'.2.2.2.1, if_neg (by omega)]
    exact ⟨h, rfl, Fh, fun c k0 k1 => G c k0 (by omega)⟩
  | succ m ih =>
    intro f v h hf hv v0 Fh G
    obtain ⟨g, rfl⟩ : ∃ g, f = g + 1 := ⟨f - 1, by omega⟩
    have y0 : m_rd h 298 0 = t1 := by rw [Fh.rd (by unfold Fx; omega)]; exact c0
    have R1' : ShR h t1 S := R1.cg (fun a j z1 z2 => Fh.rd (by unfold Fx; omega))
    conv => enter [1, h', 1, 1]; unfold GX1_draw_L12
    rw [y0, gd_cons (T1.fr Fh), gd_nil, R1'.2.2.2.1, if_pos (by omega), if_pos (by omega), gd_ib (by omega) (by omega), gd_nil, w32_id (by omega) (by omega)]
    refine ih g (v + 1) _ (by omega) (by omega) (by omega) (Fh.wr rfl) (fun c k0 k1 => ?_)
    by_cases cv : c = v
    · rw [rd_eq rfl cv]
    · rw [rd_ne (by omega)]
      exact G c k0 (by omega)
def ChR (h : MH) (t1 t2 : Int) (S : Int → Int) : Prop := m_rd h 298 0 = t1 ∧ m_rd h 298 1 = t2 ∧ TO h t1 8 ∧ TO h t2 4 ∧ ∀ c, 0 ≤ c → c < cod S → m_rd h 306 c = ent S c
theorem draw_ok {t1 t2 : Int} {S : Int → Int} {h : MH} (F : WfF S) (E : WfE S) (R1 : ShR h t1 S) (R2 : PlR h t2 S) (T1 : TO h t1 8) (T2 : TO h t2 4) (o1 : t1 + 3 ≤ 298 ∨ 310 ≤ t1) (o2 : t2 + 4 ≤ 298 ∨ 310 ≤ t2) : ∃ h', GX1_draw t1 t2 h = some h' ∧ Fr (fun a j => a = 306 ∨ (a = 298 ∧ (j = 0 ∨ j = 1))) h h' ∧ ChR h' t1 t2 S := by
  have cb := cod_b F
  have fb := F.b
  have n13 := E.1
  obtain ⟨h0, e0⟩ : ∃ h0, h0 = m_wr (m_wr h 298 0 t1) 298 1 t2 := ⟨_, rfl⟩
  have F0 : Fr (fun a j => a = 306 ∨ (a = 298 ∧ (j = 0 ∨ j = 1))) h h0 := by
    rw [e0]
    refine (Fr.rf.wr ?_).wr ?_ <;> omega
  have a0 : m_rd h0 298 0 = t1 := by
    rw [e0]
    simp (disch := omega) only [w32_id, rd_eq, rd_ne, cp_in, cp_out, lc_lt, lc_gt, lc_eq]
  have a1 : m_rd h0 298 1 = t2 := by
    rw [e0]
    simp (disch := omega) only [w32_id, rd_eq, rd_ne, cp_in, cp_out, lc_lt, lc_gt, lc_eq]
  have R1' : ShR h0 t1 S := R1.cg (fun a j z1 z2 => F0.rd (by omega))
  have R2' : PlR h0 t2 S := R2.cg (fun a j z1 z2 => F0.rd (by omega))
  have T1' := T1.fr F0
  have T2' := T2.fr F0
  unfold GX1_draw
  rw [← e0]
  obtain ⟨h1, x1, F1, q1⟩ := draw12 (K := fun h1 => GX1_draw_L45 (fun h2 => some h2) FU 0 h1) F R1' T1' a0 o1 (cod S).toNat FU 0 h0 (by unfold FU; omega) (by omega) (by omega) Fr.rf (fun c z1 z2 => by omega)
  obtain ⟨h2, x2, F2, q2⟩ := draw45 (K := fun h2 => some h2) F E R1' R2' T1' T2' a0 a1 o1 o2 (S 2 + 1).toNat FU 0 h1 (by unfold FU; omega) (by omega) (by omega) F1 (fun c z1 z2 => Or.inl ⟨q1 c z1 z2, fun i zi => by
    unfold Ins at zi
    have := E.2.1 i zi.1 zi.2.1
    omega⟩)
  rw [x1, x2]
  refine ⟨h2, rfl, F0.tr (F2.wk (fun a j z => Or.inl z)), by rw [F2.rd (by unfold Fx; omega)]; exact a0, by rw [F2.rd (by unfold Fx; omega)]; exact a1, T1'.fr F2, T2'.fr F2, fun c k0 k1 => ?_⟩
  have all : ∀ i, 0 ≤ i → i < S 13 → Ins S (S 2 + 1) 0 i := fun i i0 i1 => by
    have := E.2.1 i i0 i1
    exact ⟨i0, i1, by omega⟩
  rcases q2 c k0 k1 with ⟨a, b⟩ | ⟨a, b, d⟩
  · rw [a, ent_n E (fun i i0 i1 => b i (all i i0 i1))]
  · rw [ent_u E a.1 a.2.1 b (fun i i0 i1 => d i (all i i0 i1))]
theorem entryFor_ok {t1 t2 c : Int} {S : Int → Int} {h : MH} (F : WfF S) (E : WfE S) (C : ChR h t1 t2 S) (R1 : ShR h t1 S) (R2 : PlR h t2 S) : GX1_entryFor c h = some (if 0 ≤ c ∧ c < cod S then ent S c else -1, h) := by
  obtain ⟨c0, c1, T1, T2, ce⟩ := C
  have cb := cod_b F
  have n13 := E.1
  have eb := ent_b (c := c) E
  unfold GX1_entryFor
  rw [c0, gd_cons T1, gd_nil, hasCode_ok R1, bd_some, c1]
  simp only [jn]
  rw [gd_cons T2, gd_nil, gd_cons T2, gd_nil, has_ok R2, bd_some, has_ok R2, bd_some, if_pos (show (if 0 ≤ (-1 : Int) ∧ (-1 : Int) < S 13 then (1 : Int) else 0) = 0 by rw [t01]; omega)]
  by_cases q : 0 ≤ c ∧ c < cod S
  · rw [if_neg (by rw [t01]; exact fun z => z q), if_pos (by omega), gd_ib (by omega) (by omega), gd_nil, ce c q.1 q.2, if_pos q]
    by_cases q2 : 0 ≤ ent S c
    · rw [if_neg (by rw [t01]; omega)]
    · rw [if_pos (by rw [t01]; omega), show ent S c = -1 by omega]
  · rw [if_pos (by rw [t01]; exact q), if_neg q]
theorem holeFor_ok {t1 t2 c : Int} {S : Int → Int} {h : MH} (F : WfF S) (E : WfE S) (C : ChR h t1 t2 S) (R1 : ShR h t1 S) (R2 : PlR h t2 S) : GX1_holeFor c h = some (if 0 ≤ c ∧ c < cod S then hol S c else -1, h) := by
  have n13 := E.1
  have eb := ent_b (c := c) E
  unfold GX1_holeFor hol
  rw [entryFor_ok F E C R1 R2, bd_some]
  by_cases q : 0 ≤ c ∧ c < cod S
  · rw [if_pos q, if_pos q]
    by_cases q2 : ent S c < 0
    · rw [if_pos (by omega), if_pos q2]
    · rw [if_neg (by omega), if_neg q2, C.2.1, gd_cons C.2.2.2.1, gd_nil, gd_ib (by omega) (by omega), gd_nil, (R2.2 _ (by omega) eb.2.1).2.2]
  · rw [if_neg q, if_neg q, if_pos rfl]
theorem digitsFor_ok {t1 t2 c : Int} {S : Int → Int} {h : MH} (F : WfF S) (E : WfE S) (C : ChR h t1 t2 S) (R1 : ShR h t1 S) (R2 : PlR h t2 S) : GX1_digitsFor c h = some (if 0 ≤ c ∧ c < cod S ∧ 0 ≤ ent S c then S (46 + 3 * ent S c) else -1, h) := by
  have n13 := E.1
  have eb := ent_b (c := c) E
  unfold GX1_digitsFor
  rw [entryFor_ok F E C R1 R2, bd_some]
  by_cases q : 0 ≤ c ∧ c < cod S
  · rw [if_pos q]
    by_cases q2 : ent S c < 0
    · rw [if_pos (by omega), if_neg (by omega)]
    · rw [if_neg (by omega), if_pos (by omega), C.2.1, gd_cons C.2.2.2.1, gd_nil, gd_ib (by omega) (by omega), gd_nil, (R2.2 _ (by omega) eb.2.1).1]
  · rw [if_neg q, if_pos rfl, if_neg (fun z => q ⟨z.1, z.2.1⟩)]
