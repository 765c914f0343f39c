/-! THE TAPE READ: blanks, words, numbers -/
def BB (B : Int → Int) (n : Int) : Prop := 0 ≤ n ∧ n ≤ 400 ∧ ∀ i, 0 ≤ i → i < n → 0 ≤ B i ∧ B i < 256
def TpC (h : MH) (B : Int → Int) (n : Int) : Prop := m_rd h 1 1 = n ∧ ∀ i, 0 ≤ i → i < n → m_rd h 2 i = B i
def TpM (h : MH) (B : Int → Int) (n : Int) : Prop := m_rd h 334 1 = n ∧ ∀ i, 0 ≤ i → i < n → m_rd h 335 i = (B i + 128) % 256 - 128
def bya (B : Int → Int) (n q : Int) : Int := if 0 ≤ q ∧ q < n then B q else -1
def isB (x : Int) : Bool := decide (x = 32)
def isL (x : Int) : Bool := decide (97 ≤ x ∧ x ≤ 122)
def isD (x : Int) : Bool := decide (48 ≤ x ∧ x ≤ 57)
def rnF (P : Int → Bool) (B : Int → Int) (n : Int) : Nat → Int → Int
  | 0, _ => 0
  | m + 1, q => if P (bya B n q) = true then 1 + rnF P B n m (q + 1) else 0
def run (P : Int → Bool) (B : Int → Int) (n q : Int) : Int := rnF P B n 401 q
theorem bya_o {B : Int → Int} {n q : Int} (h : n ≤ q) : bya B n q = -1 := if_neg (by omega)
theorem bya_i {B : Int → Int} {n q : Int} (h0 : 0 ≤ q) (h1 : q < n) : bya B n q = B q := if_pos ⟨h0, h1⟩
theorem rnF_p {P : Int → Bool} {B : Int → Int} {n : Int} (pn : P (-1) = false) : ∀ (m : Nat) (q : Int), 0 ≤ q → n < q + m → 0 ≤ rnF P B n m q ∧ (q ≤ n → q + rnF P B n m q ≤ n) ∧ (∀ i, 0 ≤ i → i < rnF P B n m q → P (bya B n (q + i)) = true) ∧ P (bya B n (q + rnF P B n m q)) = false := by
  intro m
  induction m with
  | zero =>
    intro q q0 hq
    refine ⟨Int.le_refl _, fun z => ?_, fun i i0 i1 => ?_, ?_⟩
    · omega
    · have : i < 0 := i1
      omega
    · show P (bya B n (q + 0)) = false
      rw [bya_o (by omega)]
      exact pn
  | succ m ih =>
    intro q q0 hq
    by_cases c : P (bya B n q) = true
    · rw [show rnF P B n (m + 1) q = 1 + rnF P B n m (q + 1) from if_pos c]
      obtain ⟨a1, a2, a3, a4⟩ := ih (q + 1) (by omega) (by omega)
      have qn : q < n := by
        by_cases z : q < n
        · exact z
        · rw [bya_o (by omega), pn] at c
          exact absurd c (by decide)
      refine ⟨by omega, fun z => by have := a2 (by omega); omega, fun i i0 i1 => ?_, ?_⟩
      · by_cases ci : i = 0
        · rw [ci, Int.add_zero]
          exact c
        · have := a3 (i - 1) (by omega) (by omega)
          rw [show q + 1 + (i - 1) = q + i by omega] at this
          exact this
      · rw [show q + (1 + rnF P B n m (q + 1)) = q + 1 + rnF P B n m (q + 1) by omega]
        exact a4
    · rw [show rnF P B n (m + 1) q = 0 from if_neg c]
      refine ⟨by omega, fun z => by omega, fun i i0 i1 => by omega, ?_⟩
      rw [Int.add_zero]
      exact Bool.eq_false_iff.2 c
theorem run_p {P : Int → Bool} {B : Int → Int} {n q : Int} (pn : P (-1) = false) (n1 : n ≤ 400) (q0 : 0 ≤ q) : 0 ≤ run P B n q ∧ (q ≤ n → q + run P B n q ≤ n) ∧ (∀ i, 0 ≤ i → i < run P B n q → P (bya B n (q + i)) = true) ∧ P (bya B n (q + run P B n q)) = false := rnF_p pn 401 q q0 (by omega)
theorem run_u {P : Int → Bool} {B : Int → Int} {n q k : Int} (pn : P (-1) = false) (n1 : n ≤ 400) (q0 : 0 ≤ q) (k0 : 0 ≤ k) (h1 : ∀ i, 0 ≤ i → i < k → P (bya B n (q + i)) = true) (h2 : P (bya B n (q + k)) = false) : run P B n q = k := by
  obtain ⟨a1, a2, a3, a4⟩ := run_p (B := B) pn n1 q0
  by_cases c1 : run P B n q < k
  · have := h1 _ a1 c1
    rw [a4] at this
    exact absurd this (by decide)
  · by_cases c2 : k < run P B n q
    · have := a3 k k0 c2
      rw [h2] at this
      exact absurd this (by decide)
    · omega
theorem run_s {P : Int → Bool} {B : Int → Int} {n q : Int} (pn : P (-1) = false) (n1 : n ≤ 400) (q0 : 0 ≤ q) (h : P (bya B n q) = true) : run P B n q = 1 + run P B n (q + 1) := by
  obtain ⟨a1, a2, a3, a4⟩ := run_p (B := B) (q := q + 1) pn n1 (by omega)
  refine run_u pn n1 q0 (by omega) (fun i i0 i1 => ?_) ?_
  · by_cases ci : i = 0
    · rw [ci, Int.add_zero]
      exact h
    · have := a3 (i - 1) (by omega) (by omega)
      rw [show q + 1 + (i - 1) = q + i by omega] at this
      exact this
  · rw [show q + (1 + run P B n (q + 1)) = q + 1 + run P B n (q + 1) by omega]
    exact a4
theorem run_0 {P : Int → Bool} {B : Int → Int} {n q : Int} (h : P (bya B n q) = false) : run P B n q = 0 := by
  show (if P (bya B n q) = true then _ else _) = (0 : Int)
  rw [if_neg (by rw [h]; decide)]
theorem isB_n : isB (-1) = false := rfl
theorem isL_n : isL (-1) = false := rfl
theorem isD_n : isD (-1) = false := rfl
def sk (B : Int → Int) (n p : Int) : Int := p + run isB B n p
theorem sk_b {B : Int → Int} {n p : Int} (n1 : n ≤ 400) (p0 : 0 ≤ p) (p1 : p ≤ n) : p ≤ sk B n p ∧ sk B n p ≤ n := by
  have := run_p (B := B) (q := p) isB_n n1 p0
  unfold sk
  omega
theorem sk_i {B : Int → Int} {n p : Int} (n1 : n ≤ 400) (p0 : 0 ≤ p) : sk B n (sk B n p) = sk B n p := by
  have := run_p (B := B) (q := p) isB_n n1 p0
  have e : run isB B n (sk B n p) = 0 := run_0 this.2.2.2
  show sk B n p + run isB B n (sk B n p) = sk B n p
  rw [e, Int.add_zero]
def F12 (a j : Int) : Prop := a = 1 ∧ j = 2
theorem TpC.fr {h h' : MH} {B : Int → Int} {n : Int} {P : Int → Int → Prop} (T : TpC h B n) (F : Fr P h h') (no : ∀ a j, P a j → ¬ (a = 1 ∧ j = 1) ∧ a ≠ 2) : TpC h' B n := by
  refine ⟨by rw [F.rd (fun z => (no _ _ z).1 ⟨rfl, rfl⟩)]; exact T.1, fun i i0 i1 => ?_⟩
  rw [F.rd (fun z => (no _ _ z).2 rfl)]
  exact T.2 i i0 i1
theorem TpM.fr {h h' : MH} {B : Int → Int} {n : Int} {P : Int → Int → Prop} (T : TpM h B n) (F : Fr P h h') (no : ∀ a j, P a j → ¬ (a = 334 ∧ j = 1) ∧ a ≠ 335) : TpM h' B n := by
  refine ⟨by rw [F.rd (fun z => (no _ _ z).1 ⟨rfl, rfl⟩)]; exact T.1, fun i i0 i1 => ?_⟩
  rw [F.rd (fun z => (no _ _ z).2 rfl)]
  exact T.2 i i0 i1
theorem nextC_L {B : Int → Int} {n : Int} {K : MH → Option (Int × MH)} (b : BB B n) : ∀ (m f : Nat) (v : Int) (h : MH), m < f → run isB B n v = m → 0 ≤ v → v ≤ n → TpC h B n → m_rd h 1 2 = v → ∃ h', GX9_next_L5 K f v h = K h' ∧ Fr F12 h h' ∧ m_rd h' 1 2 = v + m := by
  intro m
  induction m with
  | zero =>
    intro f v h hf hr v0 v1 T ha
    obtain ⟨q, rfl⟩ : ∃ q, f = q + 1 := ⟨f - 1, by omega⟩
    have e := (run_p (B := B) (q := v) isB_n b.2.1 v0).2.2.2
    rw [hr, show v + ((0 : Nat) : Int) = v by omega] at e
    conv => enter [1, h', 1, 1]; unfold GX9_next_L5
    rw [T.1]
    refine ⟨h, ?_, Fr.rf, by omega⟩
    by_cases c : v < n
    · rw [bya_i v0 c] at e
      have ne : B v ≠ 32 := fun z => by
        rw [z] at e
        exact absurd e (by decide)
      rw [if_pos c, gd_ib v0 (by have := b.2.1; omega), gd_nil, T.2 v v0 c, if_neg ne]
    · rw [if_neg c]
  | succ m ih =>
    intro f v h hf hr v0 v1 T ha
    obtain ⟨q, rfl⟩ : ∃ q, f = q + 1 := ⟨f - 1, by omega⟩
    obtain ⟨e1, e2, e3, e4⟩ := run_p (B := B) (q := v) isB_n b.2.1 v0
    have c0 := e3 0 (by omega) (by omega)
    rw [Int.add_zero] at c0
    have c : v < n := by
      have := e2 v1
      omega
    have b1 := b.2.1
    rw [bya_i v0 c] at c0
    have e32 : B v = 32 := of_decide_eq_true c0
    have rs := run_s (B := B) (q := v) isB_n b.2.1 v0 (by rw [bya_i v0 c]; exact c0)
    conv => enter [1, h', 1, 1]; unfold GX9_next_L5
    rw [T.1, if_pos c, gd_ib v0 (by omega), gd_nil, T.2 v v0 c, if_pos e32, w32_id (x := v + 1) (by omega) (by omega)]
    have Fv : Fr F12 h (m_wr h 1 2 (v + 1)) := Fr.wr Fr.rf ⟨rfl, rfl⟩
    obtain ⟨h', e', F', a'⟩ := ih q (v + 1) (m_wr h 1 2 (v + 1)) (by omega) (by omega) (by omega) (by omega) (T.fr Fv (fun a j z => by unfold F12 at z; omega)) (rd_eq rfl rfl)
    exact ⟨h', e', Fv.tr F', by omega⟩
theorem nextC {B : Int → Int} {n p : Int} {h : MH} (b : BB B n) (T : TpC h B n) (hp : m_rd h 1 2 = p) (p0 : 0 ≤ p) (p1 : p ≤ n) : ∃ h', GX9_next h = some (bya B n (sk B n p), h') ∧ Fr F12 h h' ∧ m_rd h' 1 2 = sk B n p := by
  have r := run_p (B := B) (q := p) isB_n b.2.1 p0
  have s := sk_b (B := B) b.2.1 p0 p1
  have b1 := b.2.1
  unfold GX9_next
  rw [hp]
  obtain ⟨h1, e1, F1, a1⟩ := nextC_L (K := fun h1 => if m_rd h1 1 2 < m_rd h1 1 1 then gd [IB (m_rd h1 1 2) 400] (some (m_rd h1 2 (m_rd h1 1 2), h1)) else some ((-1), h1)) b (run isB B n p).toNat FU p h (by unfold FU; omega) (by omega) p0 p1 T hp
  have T1 : TpC h1 B n := T.fr F1 (fun a j z => by unfold F12 at z; omega)
  have a1' : m_rd h1 1 2 = sk B n p := by
    unfold sk
    omega
  rw [e1, a1', T1.1]
  refine ⟨h1, ?_, F1, a1'⟩
  by_cases c : sk B n p < n
  · rw [if_pos c, gd_ib (by omega) (by omega), gd_nil, T1.2 _ (by omega) c, bya_i (by omega) c]
  · rw [if_neg c, bya_o (by omega)]
def F348 (a j : Int) : Prop := a = 334 ∧ j = 8
theorem sgn_32 {x : Int} (x0 : 0 ≤ x) (x1 : x < 256) : ((x + 128) % 256 - 128 = 32 ↔ x = 32) ∧ ((x + 128) % 256 - 128 < 48 ∨ 57 < (x + 128) % 256 - 128 ↔ ¬ (48 ≤ x ∧ x ≤ 57)) ∧ ((x + 128) % 256 - 128 < 97 ∨ 122 < (x + 128) % 256 - 128 ↔ ¬ (97 ≤ x ∧ x ≤ 122)) ∧ ((x + 128) % 256 - 128) % 256 = x ∧ (x < 128 → (x + 128) % 256 - 128 = x) := by
  omega
theorem seeM_L {B : Int → Int} {n : Int} {K : MH → Option (Int × MH)} (b : BB B n) : ∀ (m f : Nat) (v : Int) (h : MH), m < f → run isB B n v = m → 0 ≤ v → v ≤ n → TpM h B n → m_rd h 334 8 = v → ∃ h', GX12_see_L0 K f h = K h' ∧ Fr F348 h h' ∧ m_rd h' 334 8 = v + m := by
  intro m
  induction m with
  | zero =>
    intro f v h hf hr v0 v1 T ha
    obtain ⟨q, rfl⟩ : ∃ q, f = q + 1 := ⟨f - 1, by omega⟩
    have e := (run_p (B := B) (q := v) isB_n b.2.1 v0).2.2.2
    rw [hr, show v + ((0 : Nat) : Int) = v by omega] at e
    conv => enter [1, h', 1, 1]; unfold GX12_see_L0
    rw [T.1, ha]
    refine ⟨h, ?_, Fr.rf, by omega⟩
    by_cases c : v < n
    · rw [bya_i v0 c] at e
      have ne : B v ≠ 32 := fun z => by
        rw [z] at e
        exact absurd e (by decide)
      have sg := sgn_32 (b.2.2 v v0 c).1 (b.2.2 v v0 c).2
      rw [if_pos c, gd_ib v0 (by have := b.2.1; omega), gd_nil, T.2 v v0 c, if_neg (fun z => ne (sg.1.1 z))]
    · rw [if_neg c]
  | succ m ih =>
    intro f v h hf hr v0 v1 T ha
    obtain ⟨q, rfl⟩ : ∃ q, f = q + 1 := ⟨f - 1, by omega⟩
    obtain ⟨e1, e2, e3, e4⟩ := run_p (B := B) (q := v) isB_n b.2.1 v0
    have c0 := e3 0 (by omega) (by omega)
    rw [Int.add_zero] at c0
    have c : v < n := by
      have := e2 v1
      omega
    have b1 := b.2.1
    rw [bya_i v0 c] at c0
    have e32 : B v = 32 := of_decide_eq_true c0
    have sg := sgn_32 (b.2.2 v v0 c).1 (b.2.2 v v0 c).2
    have rs := run_s (B := B) (q := v) isB_n b.2.1 v0 (by rw [bya_i v0 c]; exact c0)
    conv => enter [1, h', 1, 1]; unfold GX12_see_L0
    rw [T.1, ha, if_pos c, gd_ib v0 (by omega), gd_nil, T.2 v v0 c, if_pos (sg.1.2 e32), w32_id (x := v + 1) (by omega) (by omega)]
    have Fv : Fr F348 h (m_wr h 334 8 (v + 1)) := Fr.wr Fr.rf ⟨rfl, rfl⟩
    obtain ⟨h', e', F', a'⟩ := ih q (v + 1) (m_wr h 334 8 (v + 1)) (by omega) (by omega) (by omega) (by omega) (T.fr Fv (fun a j z => by unfold F348 at z; omega)) (rd_eq rfl rfl)
    exact ⟨h', e', Fv.tr F', by omega⟩
theorem seeM {B : Int → Int} {n p : Int} {h : MH} (b : BB B n) (T : TpM h B n) (hp : m_rd h 334 8 = p) (p0 : 0 ≤ p) (p1 : p ≤ n) : ∃ h', GX12_see h = some (bya B n (sk B n p), h') ∧ Fr F348 h h' ∧ m_rd h' 334 8 = sk B n p := by
  have r := run_p (B := B) (q := p) isB_n b.2.1 p0
  have s := sk_b (B := B) b.2.1 p0 p1
  have b1 := b.2.1
  unfold GX12_see
  obtain ⟨h1, e1, F1, a1⟩ := seeM_L (K := fun h1 => if m_rd h1 334 8 < m_rd h1 334 1 then gd [IB (m_rd h1 334 8) 400] (some (m_band (m_rd h1 335 (m_rd h1 334 8)) 255, h1)) else some ((-1), h1)) b (run isB B n p).toNat FU p h (by unfold FU; omega) (by omega) p0 p1 T hp
  have T1 : TpM h1 B n := T.fr F1 (fun a j z => by unfold F348 at z; omega)
  have a1' : m_rd h1 334 8 = sk B n p := by
    unfold sk
    omega
  rw [e1, a1', T1.1]
  refine ⟨h1, ?_, F1, a1'⟩
  by_cases c : sk B n p < n
  · have bb' := b.2.2 (sk B n p) (by omega) c
    rw [if_pos c, gd_ib (by omega) (by omega), gd_nil, T1.2 _ (by omega) c, band255 (by omega) (by omega), (sgn_32 bb'.1 bb'.2).2.2.2.1, bya_i (by omega) c]
  · rw [if_neg c, bya_o (by omega)]
/-! words -/
def wdp (B : Int → Int) (n q a : Int) : Prop := (∀ i, 0 ≤ i → i < t_len a → bya B n (q + i) = t_chr a i) ∧ isL (bya B n (q + t_len a)) = false
theorem byteAt_ok {B : Int → Int} {n q : Int} {h : MH} (b : BB B n) (T : TpC h B n) : GX9_byteAt q h = some (bya B n q, h) := by
  have b1 := b.2.1
  unfold GX9_byteAt
  rw [T.1]
  by_cases c : q < 0
  · rw [if_pos c]
    unfold bya
    rw [if_neg (by omega)]
  rw [if_neg c]
  by_cases c2 : q < n
  · rw [if_pos c2, gd_ib (by omega) (by omega), gd_nil, T.2 q (by omega) c2, bya_i (by omega) c2]
  · rw [if_neg c2, bya_o (by omega)]
theorem twC_L {B : Int → Int} {n q a : Int} {h : MH} {K0 K1 : MH → Option (Int × MH)} (b : BB B n) (T : TpC h B n) (hq : m_rd h 1 2 = q) (q0 : 0 ≤ q) (q1 : q ≤ 400) (ga : GX a) (la : t_len a ≤ 10) : ∀ (m f : Nat) (v : Int), m < f → v + m = t_len a → 0 ≤ v → ((∀ i, v ≤ i → i < t_len a → bya B n (q + i) = t_chr a i) → GX9_takeWord_L7 a K0 K1 f v h = K1 h) ∧ (¬ (∀ i, v ≤ i → i < t_len a → bya B n (q + i) = t_chr a i) → GX9_takeWord_L7 a K0 K1 f v h = K0 h) := by
  intro m
  induction m with
  | zero =>
    intro f v hf hv v0
    obtain ⟨g, rfl⟩ : ∃ g, f = g + 1 := ⟨f - 1, by omega⟩
    have e : GX9_takeWord_L7 a K0 K1 (g + 1) v h = K1 h := by
      conv => lhs; unfold GX9_takeWord_L7
      rw [gd_cons ga, gd_nil, if_neg (by omega)]
    exact ⟨fun _ => e, fun z => absurd (fun i i0 i1 => by omega) z⟩
  | succ m ih =>
    intro f v hf hv v0
    obtain ⟨g, rfl⟩ : ∃ g, f = g + 1 := ⟨f - 1, by omega⟩
    obtain ⟨i1, i2⟩ := ih g (v + 1) (by omega) (by omega) (by omega)
    have un : GX9_takeWord_L7 a K0 K1 (g + 1) v h = if bya B n (q + v) = t_chr a v then GX9_takeWord_L7 a K0 K1 g (v + 1) h else K0 h := by
      conv => lhs; unfold GX9_takeWord_L7
      rw [gd_cons ga, gd_nil, if_pos (by omega), hq, w32_id (x := q + v) (by omega) (by omega), byteAt_ok b T, bd_some, gd_cons (show GY a v from ⟨ga.1, ga.2, v0, by omega⟩), gd_nil, w32_id (x := v + 1) (by omega) (by omega)]
    by_cases c : bya B n (q + v) = t_chr a v
    · rw [if_pos c] at un
      have iff : (∀ i, v ≤ i → i < t_len a → bya B n (q + i) = t_chr a i) ↔ (∀ i, v + 1 ≤ i → i < t_len a → bya B n (q + i) = t_chr a i) := by
        constructor
        · intro z i j0 j1
          exact z i (by omega) j1
        · intro z i j0 j1
          by_cases ci : i = v
          · rw [ci]
            exact c
          · exact z i (by omega) j1
      rw [iff, un]
      exact ⟨i1, i2⟩
    · rw [if_neg c] at un
      exact ⟨fun z => absurd (z v (by omega) (by omega)) c, fun _ => un⟩
theorem takeWordC {B : Int → Int} {n p a : Int} {h : MH} (b : BB B n) (T : TpC h B n) (hp : m_rd h 1 2 = p) (p0 : 0 ≤ p) (p1 : p ≤ n) (ga : GX a) (la : t_len a ≤ 10) : ∃ x h', GX9_takeWord a h = some (x, h') ∧ (x = 0 ∨ x = 1) ∧ (x = 1 ↔ wdp B n (sk B n p) a) ∧ Fr F12 h h' ∧ m_rd h' 1 2 = (if x = 1 then sk B n p + t_len a else sk B n p) := by
  have s := sk_b (B := B) b.2.1 p0 p1
  have b1 := b.2.1
  obtain ⟨h1, e1, F1, a1⟩ := nextC b T hp p0 p1
  have T1 : TpC h1 B n := T.fr F1 (fun a j z => by unfold F12 at z; omega)
  have l0 : 0 ≤ t_len a := by
    unfold t_len
    omega
  obtain ⟨i1, i2⟩ := twC_L (K0 := fun h3 => some ((0 : Int), h3)) (K1 := fun h4 => gd [GX a] (bd (GX9_byteAt (m_w32 ((m_rd h4 1 2) + (t_len a))) h4) (fun x6 h5 => jn (gd [GX a] (some ((1 : Int), m_wr h5 1 2 (m_w32 ((m_rd h5 1 2) + (t_len a)))))) (fun j7 => if x6 < 97 then j7 else if 122 < x6 then j7 else some (0, h5))))) b T1 a1 (by omega) (by omega) ga la (t_len a).toNat FU 0 (by unfold FU; omega) (by omega) (by omega)
  unfold GX9_takeWord
  rw [e1, bd_some]
  by_cases c : ∀ i, 0 ≤ i → i < t_len a → bya B n (sk B n p + i) = t_chr a i
  · rw [i1 c, gd_cons ga, gd_nil, a1, w32_id (x := sk B n p + t_len a) (by omega) (by omega), byteAt_ok b T1, bd_some]
    simp only [jn]
    rw [gd_cons ga, gd_nil, a1, w32_id (x := sk B n p + t_len a) (by omega) (by omega)]
    by_cases c2 : 97 ≤ bya B n (sk B n p + t_len a) ∧ bya B n (sk B n p + t_len a) ≤ 122
    · rw [if_neg (by omega), if_neg (by omega)]
      refine ⟨0, h1, rfl, Or.inl rfl, ⟨fun z => absurd z (by decide), fun z => ?_⟩, F1, ?_⟩
      · have e := z.2
        rw [show isL (bya B n (sk B n p + t_len a)) = true from decide_eq_true c2] at e
        exact absurd e (by decide)
      · rw [if_neg (by decide)]
        exact a1
    · have fin : ∃ x h', some ((1 : Int), m_wr h1 1 2 (sk B n p + t_len a)) = some (x, h') ∧ (x = 0 ∨ x = 1) ∧ (x = 1 ↔ wdp B n (sk B n p) a) ∧ Fr F12 h h' ∧ m_rd h' 1 2 = (if x = 1 then sk B n p + t_len a else sk B n p) := by
        refine ⟨1, _, rfl, Or.inr rfl, ⟨fun _ => ⟨c, decide_eq_false c2⟩, fun _ => rfl⟩, F1.wr ⟨rfl, rfl⟩, ?_⟩
        rw [if_pos rfl, rd_eq rfl rfl]
      by_cases c3 : bya B n (sk B n p + t_len a) < 97
      · rw [if_pos c3]
        exact fin
      · rw [if_neg c3, if_pos (by omega)]
        exact fin
  · rw [i2 c]
    refine ⟨0, h1, rfl, Or.inl rfl, ⟨fun z => absurd z (by decide), fun z => absurd z.1 c⟩, F1, ?_⟩
    rw [if_neg (by decide)]
    exact a1
/-! packed words -/
def pa (f : Int → Int) : Nat → Int
  | 0 => 0
  | m + 1 => pa f m * 256 + f (m : Int)
theorem pak_0 {f : Int → Int} : ∀ m : Nat, (∀ i : Int, 0 ≤ i → i < m → 1 ≤ f i ∧ f i ≤ 255) → 0 ≤ pa f m ∧ (0 < m → 1 ≤ pa f m) := by
  intro m
  induction m with
  | zero =>
    intro _
    exact ⟨Int.le_refl _, fun z => absurd z (by decide)⟩
  | succ m ih =>
    intro h
    have i := ih (fun j j0 j1 => h j j0 (by omega))
    have g := h m (by omega) (by omega)
    show 0 ≤ pa f m * 256 + f (m : Int) ∧ (_ → 1 ≤ pa f m * 256 + f (m : Int))
    omega
theorem pa_inj {f g : Int → Int} : ∀ (m k : Nat), (∀ i : Int, 0 ≤ i → i < m → 1 ≤ f i ∧ f i ≤ 255) → (∀ i : Int, 0 ≤ i → i < k → 1 ≤ g i ∧ g i ≤ 255) → pa f m = pa g k → m = k ∧ ∀ i : Int, 0 ≤ i → i < m → f i = g i := by
  intro m
  induction m with
  | zero =>
    intro k hf hg e
    have z := (pak_0 k hg).2
    have e0 : pa f 0 = 0 := rfl
    by_cases c : k = 0
    · exact ⟨c.symm, fun i i0 i1 => by omega⟩
    · have := z (by omega)
      omega
  | succ m ih =>
    intro k hf hg e
    cases k with
    | zero =>
      have z := (pak_0 (m + 1) hf).2 (by omega)
      have e0 : pa g 0 = 0 := rfl
      omega
    | succ k =>
      have e1 : pa f (m + 1) = pa f m * 256 + f (m : Int) := rfl
      have e2 : pa g (k + 1) = pa g k * 256 + g (k : Int) := rfl
      have f1 := hf m (by omega) (by omega)
      have g1 := hg k (by omega) (by omega)
      obtain ⟨r1, r2⟩ := ih k (fun j j0 j1 => hf j j0 (by omega)) (fun j j0 j1 => hg j j0 (by omega)) (by omega)
      subst r1
      refine ⟨rfl, fun i i0 i1 => ?_⟩
      by_cases c : i = m
      · rw [c]
        omega
      · exact r2 i i0 (by omega)
theorem lsh8 {v b : Int} (v0 : 0 ≤ v) (v1 : v < 281474976710656) (b0 : 0 ≤ b) (b1 : b < 256) : m_lor (m_lshl v 8) b = v * 256 + b := by
  have e1 : m_lor (m_lshl v 8) b = ((BitVec.ofInt 64 v <<< 8) ||| BitVec.ofInt 64 b).toInt := by
    unfold m_lor m_lshl
    rw [Int64.ofInt_toInt]
    rfl
  have n1 : (BitVec.ofInt 64 v).toNat = v.toNat := by
    rw [BitVec.toNat_ofInt]
    omega
  have n2 : (BitVec.ofInt 64 b).toNat = b.toNat := by
    rw [BitVec.toNat_ofInt]
    omega
  have n3 : ((BitVec.ofInt 64 v <<< 8) ||| BitVec.ofInt 64 b).toNat = v.toNat * 256 + b.toNat := by
    rw [BitVec.toNat_or, BitVec.toNat_shiftLeft, n1, n2, Nat.shiftLeft_eq, Nat.mod_eq_of_lt (by omega), show v.toNat * 2 ^ 8 = v.toNat <<< 8 by rw [Nat.shiftLeft_eq], ← Nat.shiftLeft_add_eq_or_of_lt (by omega), Nat.shiftLeft_eq]
  rw [e1, BitVec.toInt_eq_toNat_cond, n3]
  split <;> omega
theorem isLetterM {B : Int → Int} {n q : Int} {h : MH} (b : BB B n) (T : TpM h B n) (q0 : 0 ≤ q) : GX12_isLetter q h = some (if isL (bya B n q) = true then 1 else 0, h) := by
  have b1 := b.2.1
  unfold GX12_isLetter
  rw [T.1]
  by_cases c : q < n
  · have bb' := b.2.2 q q0 c
    have sg := (sgn_32 bb'.1 bb'.2).2.2.1
    rw [if_pos c, gd_ib q0 (by omega), gd_nil, gd_ib q0 (by omega), gd_nil, T.2 q q0 c, bya_i q0 c]
    by_cases d : 97 ≤ B q ∧ B q ≤ 122
    · rw [if_neg (by omega), if_neg (by omega), if_pos (show isL (B q) = true from decide_eq_true d)]
    · rw [if_neg (show ¬ isL (B q) = true from fun z => d (of_decide_eq_true z))]
      by_cases d2 : (B q + 128) % 256 - 128 < 97
      · rw [if_pos d2]
      · rw [if_neg d2, if_pos (by omega)]
  · rw [if_neg c, bya_o (by omega)]
    rfl
theorem isDigitM {B : Int → Int} {n q : Int} {h : MH} (b : BB B n) (T : TpM h B n) (q0 : 0 ≤ q) : GX12_isDigit q h = some (if isD (bya B n q) = true then 1 else 0, h) := by
  have b1 := b.2.1
  unfold GX12_isDigit
  rw [T.1]
  by_cases c : q < n
  · have bb' := b.2.2 q q0 c
    have sg := (sgn_32 bb'.1 bb'.2).2.1
    rw [if_pos c, gd_ib q0 (by omega), gd_nil, gd_ib q0 (by omega), gd_nil, T.2 q q0 c, bya_i q0 c]
    by_cases d : 48 ≤ B q ∧ B q ≤ 57
    · rw [if_neg (by omega), if_neg (by omega), if_pos (show isD (B q) = true from decide_eq_true d)]
    · rw [if_neg (show ¬ isD (B q) = true from fun z => d (of_decide_eq_true z))]
      by_cases d2 : (B q + 128) % 256 - 128 < 48
      · rw [if_pos d2]
      · rw [if_neg d2, if_pos (by omega)]
  · rw [if_neg c, bya_o (by omega)]
    rfl
theorem pa_le {f : Int → Int} : ∀ m : Nat, m ≤ 7 → (∀ i : Int, 0 ≤ i → i < m → 0 ≤ f i ∧ f i ≤ 255) → 0 ≤ pa f m ∧ (m ≤ 6 → pa f m < 281474976710656) ∧ pa f m < 256 ^ m := by
  intro m
  induction m with
  | zero =>
    intro _ _
    exact ⟨Int.le_refl _, fun _ => by show (0 : Int) < _; decide, by show (0 : Int) < 256 ^ 0; decide⟩
  | succ m ih =>
    intro hm h
    have i := ih (by omega) (fun j j0 j1 => h j j0 (by omega))
    have g := h m (by omega) (by omega)
    have e : pa f (m + 1) = pa f m * 256 + f (m : Int) := rfl
    have p : (256 : Int) ^ (m + 1) = 256 ^ m * 256 := Int.pow_succ ..
    have q : m ≤ 5 → (256 : Int) ^ (m + 1) ≤ 281474976710656 := by
      intro z
      have hm' : m = 0 ∨ m = 1 ∨ m = 2 ∨ m = 3 ∨ m = 4 ∨ m = 5 := by omega
      rcases hm' with rfl | rfl | rfl | rfl | rfl | rfl <;> decide
    refine ⟨by omega, fun z => ?_, by omega⟩
    have := q (by omega)
    omega
theorem iwM_L {B : Int → Int} {n q u : Int} {h : MH} {K : Int → Int → MH → Option (Int × MH)} (b : BB B n) (T : TpM h B n) (hq : m_rd h 334 8 = q) (q0 : 0 ≤ q) (q1 : q ≤ n) : ∀ (m f v : Nat) (x : Int), m < f → (v : Int) + m = run isL B n q → (v ≤ 7 → x = pa (fun i => B (q + i)) v) → ∃ y, GX12_isWord_L10 u K f x v h = K y (run isL B n q) h ∧ (run isL B n q ≤ 7 → y = pa (fun i => B (q + i)) (run isL B n q).toNat) := by
  have b1 := b.2.1
  obtain ⟨r1, r2, r3, r4⟩ := run_p (B := B) (q := q) isL_n b.2.1 q0
  have r2' := r2 q1
  intro m
  induction m with
  | zero =>
    intro f v x hf hv hx
    obtain ⟨g, rfl⟩ : ∃ g, f = g + 1 := ⟨f - 1, by omega⟩
    conv => enter [1, y, 1, 1]; unfold GX12_isWord_L10
    rw [hq, w32_id (x := q + v) (by omega) (by omega), isLetterM b T (by omega), bd_some, show q + (v : Int) = q + run isL B n q by omega, r4, if_pos (by decide)]
    refine ⟨x, ?_, fun z => ?_⟩
    · rw [show (v : Int) = run isL B n q by omega]
    · rw [show (run isL B n q).toNat = v by omega]
      exact hx (by omega)
  | succ m ih =>
    intro f v x hf hv hx
    obtain ⟨g, rfl⟩ : ∃ g, f = g + 1 := ⟨f - 1, by omega⟩
    have lt := r3 v (by omega) (by omega)
    have vn : q + v < n := by omega
    have bb' := b.2.2 (q + v) (by omega) vn
    have lt' := lt
    rw [bya_i (by omega) vn] at lt'
    have lt2 : 97 ≤ B (q + v) ∧ B (q + v) ≤ 122 := of_decide_eq_true lt'
    have sg := (sgn_32 bb'.1 bb'.2).2.2.2.2 (by omega)
    conv => enter [1, y, 1, 1]; unfold GX12_isWord_L10
    rw [hq, w32_id (x := q + v) (by omega) (by omega), isLetterM b T (by omega), bd_some, lt, if_pos rfl, if_neg (by decide), w32_id (x := (v : Int) + 1) (by omega) (by omega)]
    by_cases c : (v : Int) < 8
    · rw [if_pos c, hq, w32_id (x := q + v) (by omega) (by omega), gd_ib (by omega) (by omega), gd_nil, T.2 (q + v) (by omega) vn, sg]
      refine ih g (v + 1) _ (by omega) (by omega) (fun z => ?_)
      have hx' := hx (by omega)
      have le := pa_le (f := fun i => B (q + i)) v (by omega) (fun i i0 i1 => by have := b.2.2 (q + i) (by omega) (by omega); omega)
      rw [hx', lsh8 le.1 (le.2.1 (by omega)) bb'.1 bb'.2]
      rfl
    · rw [if_neg c]
      exact ih g (v + 1) x (by omega) (by omega) (fun z => by omega)
theorem isWordM {B : Int → Int} {n p w : Int} {h : MH} (b : BB B n) (T : TpM h B n) (hp : m_rd h 334 8 = p) (p0 : 0 ≤ p) (p1 : p ≤ n) : ∃ x h', GX12_isWord w h = some (x, h') ∧ (x = 0 ∨ x = 1) ∧ (x = 1 ↔ (0 < run isL B n (sk B n p) ∧ run isL B n (sk B n p) < 8 ∧ pa (fun i => B (sk B n p + i)) (run isL B n (sk B n p)).toNat = w)) ∧ Fr F348 h h' ∧ m_rd h' 334 8 = sk B n p := by
  have s := sk_b (B := B) b.2.1 p0 p1
  have b1 := b.2.1
  obtain ⟨h1, e1, F1, a1⟩ := seeM b T hp p0 p1
  have T1 : TpM h1 B n := T.fr F1 (fun a j z => by unfold F348 at z; omega)
  have r := run_p (B := B) (q := sk B n p) isL_n b.2.1 (by omega)
  have r2 := r.2.1 s.2
  obtain ⟨y, e2, hy⟩ := iwM_L (u := w) (K := fun w3 w4 h5 => if 0 < w4 then (if w4 < 8 then (if m_lcmp w3 w = 0 then some ((1 : Int), h5) else some (0, h5)) else some (0, h5)) else some (0, h5)) b T1 a1 (by omega) s.2 (run isL B n (sk B n p)).toNat FU 0 0 (by unfold FU; omega) (by omega) (fun _ => rfl)
  unfold GX12_isWord
  rw [e1, bd_some]
  rw [show ((0 : Nat) : Int) = 0 from rfl] at e2
  rw [e2]
  by_cases c1 : 0 < run isL B n (sk B n p)
  · rw [if_pos c1]
    by_cases c2 : run isL B n (sk B n p) < 8
    · rw [if_pos c2, hy (by omega)]
      by_cases c3 : pa (fun i => B (sk B n p + i)) (run isL B n (sk B n p)).toNat = w
      · rw [if_pos (lc_eq.2 c3)]
        exact ⟨1, h1, rfl, Or.inr rfl, ⟨fun _ => ⟨c1, c2, c3⟩, fun _ => rfl⟩, F1, a1⟩
      · rw [if_neg (fun z => c3 (lc_eq.1 z))]
        exact ⟨0, h1, rfl, Or.inl rfl, ⟨fun z => absurd z (by decide), fun z => absurd z.2.2 c3⟩, F1, a1⟩
    · rw [if_neg c2]
      exact ⟨0, h1, rfl, Or.inl rfl, ⟨fun z => absurd z (by decide), fun z => absurd z.2.1 c2⟩, F1, a1⟩
  · rw [if_neg c1]
    exact ⟨0, h1, rfl, Or.inl rfl, ⟨fun z => absurd z (by decide), fun z => absurd z.1 c1⟩, F1, a1⟩
/-- a word of the class and of the reference -/
def WD (a w : Int) : Prop := GX a ∧ 1 ≤ t_len a ∧ t_len a ≤ 7 ∧ (∀ i, 0 ≤ i → i < t_len a → 97 ≤ t_chr a i ∧ t_chr a i ≤ 122) ∧ pa (t_chr a) (t_len a).toNat = w
theorem wd_run {B : Int → Int} {n q a w : Int} (b : BB B n) (W : WD a w) (q0 : 0 ≤ q) (h : wdp B n q a) : run isL B n q = t_len a := by
  obtain ⟨w1, w2, w3, w4, w5⟩ := W
  refine run_u isL_n b.2.1 q0 (by omega) (fun i i0 i1 => ?_) h.2
  rw [h.1 i i0 i1]
  exact decide_eq_true (w4 i i0 i1)
theorem wd_iff {B : Int → Int} {n q a w : Int} (b : BB B n) (W : WD a w) (q0 : 0 ≤ q) (q1 : q ≤ n) : wdp B n q a ↔ (0 < run isL B n q ∧ run isL B n q < 8 ∧ pa (fun i => B (q + i)) (run isL B n q).toNat = w) := by
  obtain ⟨w1, w2, w3, w4, w5⟩ := id W
  obtain ⟨r1, r2, r3, r4⟩ := run_p (B := B) (q := q) isL_n b.2.1 q0
  have r2' := r2 q1
  have lt : ∀ i, 0 ≤ i → i < run isL B n q → 97 ≤ B (q + i) ∧ B (q + i) ≤ 122 := fun i i0 i1 => by
    have := r3 i i0 i1
    rw [bya_i (by omega) (by omega)] at this
    exact of_decide_eq_true this
  constructor
  · intro h
    have e := wd_run b W q0 h
    refine ⟨by omega, by omega, ?_⟩
    rw [← w5, e]
    have gen : ∀ m : Nat, (m : Int) ≤ t_len a → pa (fun i => B (q + i)) m = pa (t_chr a) m := by
      intro m
      induction m with
      | zero =>
        intro _
        rfl
      | succ m ih =>
        intro hm
        have z := h.1 m (by omega) (by omega)
        rw [bya_i (by omega) (by omega)] at z
        show pa (fun i => B (q + i)) m * 256 + B (q + (m : Int)) = pa (t_chr a) m * 256 + t_chr a (m : Int)
        rw [ih (by omega), z]
    exact gen _ (by omega)
  · intro ⟨h1, h2, h3⟩
    rw [← w5] at h3
    obtain ⟨e1, e2⟩ := pa_inj _ _ (fun i i0 i1 => by have := lt i i0 (by omega); show 1 ≤ B (q + i) ∧ B (q + i) ≤ 255; omega) (fun i i0 i1 => by have := w4 i i0 (by omega); omega) h3
    have el : run isL B n q = t_len a := by omega
    refine ⟨fun i i0 i1 => ?_, by rw [← el]; exact r4⟩
    rw [bya_i (by omega) (by omega)]
    exact e2 i i0 (by omega)
theorem pwM_L {B : Int → Int} {n : Int} {K : MH → Option MH} (b : BB B n) : ∀ (m f : Nat) (v : Int) (h : MH), m < f → run isL B n v = m → 0 ≤ v → v ≤ n → TpM h B n → m_rd h 334 8 = v → ∃ h', GX12_passWord_L0 K f h = K h' ∧ Fr F348 h h' ∧ m_rd h' 334 8 = v + m := by
  intro m
  induction m with
  | zero =>
    intro f v h hf hr v0 v1 T ha
    obtain ⟨q, rfl⟩ : ∃ q, f = q + 1 := ⟨f - 1, by omega⟩
    have e := (run_p (B := B) (q := v) isL_n b.2.1 v0).2.2.2
    rw [hr, show v + ((0 : Nat) : Int) = v by omega] at e
    conv => enter [1, h', 1, 1]; unfold GX12_passWord_L0
    rw [ha, isLetterM b T v0, bd_some, e, if_pos (by decide)]
    exact ⟨h, rfl, Fr.rf, by omega⟩
  | succ m ih =>
    intro f v h hf hr v0 v1 T ha
    obtain ⟨q, rfl⟩ : ∃ q, f = q + 1 := ⟨f - 1, by omega⟩
    obtain ⟨e1, e2, e3, e4⟩ := run_p (B := B) (q := v) isL_n b.2.1 v0
    have c0 := e3 0 (by omega) (by omega)
    rw [Int.add_zero] at c0
    have b1 := b.2.1
    have e2' := e2 v1
    have rs := run_s (B := B) (q := v) isL_n b.2.1 v0 c0
    conv => enter [1, h', 1, 1]; unfold GX12_passWord_L0
    rw [ha, isLetterM b T v0, bd_some, c0, if_pos rfl, if_neg (by decide), ha, w32_id (x := v + 1) (by omega) (by omega)]
    have Fv : Fr F348 h (m_wr h 334 8 (v + 1)) := Fr.wr Fr.rf ⟨rfl, rfl⟩
    obtain ⟨h', e', F', a'⟩ := ih q (v + 1) (m_wr h 334 8 (v + 1)) (by omega) (by omega) (by omega) (by omega) (T.fr Fv (fun a j z => by unfold F348 at z; omega)) (rd_eq rfl rfl)
    exact ⟨h', e', Fv.tr F', by omega⟩
theorem passWordM {B : Int → Int} {n q : Int} {h : MH} (b : BB B n) (T : TpM h B n) (hq : m_rd h 334 8 = q) (q0 : 0 ≤ q) (q1 : q ≤ n) : ∃ h', GX12_passWord h = some h' ∧ Fr F348 h h' ∧ m_rd h' 334 8 = q + run isL B n q := by
  have r := run_p (B := B) (q := q) isL_n b.2.1 q0
  have b1 := b.2.1
  have r2 := r.2.1 q1
  unfold GX12_passWord
  obtain ⟨h', e, F, a⟩ := pwM_L (K := fun h1 => some h1) b (run isL B n q).toNat FU q h (by unfold FU; omega) (by omega) q0 q1 T hq
  exact ⟨h', e, F, by omega⟩
