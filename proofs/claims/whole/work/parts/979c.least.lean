/-! least: the fewest entries of one meaning -/
def lf (S : Int → Int) (c g : Int) : Int := if hol S c = (if g = 6 then -1 else g) then 0 else if hol S c = -1 then 10000 else 1
def chk (f : Int → Int) : Nat → Int
  | 0 => 10000
  | m + 1 => m_mn (chk f m) (f (m : Int))
def kp0 (V : Int → Int → Int) (r n g : Int) : Int := m_mn (sumn (fun i => V (n * r + i) g) 0 r.toNat) 10000
def jn0 (V : Int → Int → Int) (r s n g : Int) : Int := m_mn (kp0 V r n g) (m_mn (chk (kp0 V r n) s.toNat + 1) 10000)
/-- what a node costs, k digits above the codes -/
def lv (S : Int → Int) : Nat → Int → Int → Int
  | 0 => lf S
  | k + 1 => jn0 (lv S k) (S 1) (S 3)
def rl (x : Int) : Int := if x < 9999 then x else 9999
def OKc (b x : Int) : Prop := (0 ≤ x ∧ x ≤ b) ∨ x = 10000
def bb : Nat → Int
  | 0 => 1
  | k + 1 => 4 * bb k + 1
theorem sum_ok {f : Int → Int} {b : Int} (b0 : 0 ≤ b) : ∀ m : Nat, m ≤ 4 → (∀ i : Int, 0 ≤ i → i < m → OKc b (f i)) → ((0 ≤ sumn f 0 m ∧ sumn f 0 m ≤ b * m ∧ sumn (fun i => rl (f i)) 0 m = sumn f 0 m ∧ b ≤ 1000) ∨ b > 1000 ∨ (10000 ≤ sumn f 0 m ∧ sumn f 0 m ≤ 10000 * m + b * m ∧ 9999 ≤ sumn (fun i => rl (f i)) 0 m ∧ sumn (fun i => rl (f i)) 0 m ≤ 10000 * m)) := by
  intro m
  induction m with
  | zero =>
    intro _ _
    by_cases c : b > 1000
    · exact Or.inr (Or.inl c)
    · refine Or.inl ⟨Int.le_refl _, ?_, rfl, by omega⟩
      show (0 : Int) ≤ b * ((0 : Nat) : Int)
      simp
  | succ m ih =>
    intro hm ok
    have i := ih (by omega) (fun j j0 j1 => ok j j0 (by omega))
    have o := ok m (by omega) (by omega)
    have e1 : sumn f 0 (m + 1) = sumn f 0 m + f (0 + (m : Int)) := rfl
    have e2 : sumn (fun i => rl (f i)) 0 (m + 1) = sumn (fun i => rl (f i)) 0 m + rl (f (0 + (m : Int))) := rfl
    have e3 : b * ((m + 1 : Nat) : Int) = b * m + b := by
      rw [Int.natCast_add, Int.mul_add]
      simp
    rw [Int.zero_add] at e1 e2
    unfold OKc at o
    by_cases c : b > 1000
    · exact Or.inr (Or.inl c)
    have bm : b * (m : Int) ≤ 1000 * (m : Int) := Int.mul_le_mul_of_nonneg_right (by omega) (by omega)
    have bm0 : 0 ≤ b * (m : Int) := Int.mul_nonneg b0 (by omega)
    have hr : (f (m : Int) = 10000 ∧ rl (f (m : Int)) = 9999) ∨ (0 ≤ f (m : Int) ∧ f (m : Int) ≤ b ∧ rl (f (m : Int)) = f (m : Int)) := by
      unfold rl
      split <;> omega
    omega
theorem mn_b2 {x y : Int} : m_mn x y ≤ x ∧ m_mn x y ≤ y ∧ (m_mn x y = x ∨ m_mn x y = y) := by
  unfold m_mn
  split <;> omega
theorem kp_ar {A B b : Int} (b1 : b ≤ 341) (s : (0 ≤ A ∧ A ≤ 4 * b ∧ B = A) ∨ (10000 ≤ A ∧ A ≤ 45000 ∧ 9999 ≤ B ∧ B ≤ 40000)) : OKc (4 * b) (m_mn A 10000) ∧ (0 ≤ A ∧ A ≤ 50000) ∧ (0 ≤ B ∧ B ≤ 50000) ∧ (if B < 9999 then B else 9999) = rl (m_mn A 10000) := by
  have m := mn_b2 (x := A) (y := 10000)
  unfold OKc rl
  refine ⟨by omega, by omega, by omega, ?_⟩
  split <;> split <;> omega
theorem jn_ar {k x c e b : Int} (b0 : 0 ≤ b) (b1 : b ≤ 341) (hk : (k = 10000 ∧ x = 9999) ∨ (0 ≤ k ∧ k ≤ 4 * b ∧ x = k)) (hc : (0 ≤ c ∧ c ≤ 4 * b ∧ e = c + 1) ∨ (c = 10000 ∧ e = 9999)) : OKc (4 * b + 1) (m_mn k (m_mn (c + 1) 10000)) ∧ (if x < e then x else e) = rl (m_mn k (m_mn (c + 1) 10000)) := by
  have m1 := mn_b2 (x := c + 1) (y := 10000)
  have m2 := mn_b2 (x := k) (y := m_mn (c + 1) 10000)
  unfold OKc rl
  refine ⟨by omega, ?_⟩
  split <;> split <;> omega
theorem bb_b {k : Nat} (h : k ≤ 4) : 1 ≤ bb k ∧ bb k ≤ 341 := by
  have hk : k = 0 ∨ k = 1 ∨ k = 2 ∨ k = 3 ∨ k = 4 := by omega
  rcases hk with rfl | rfl | rfl | rfl | rfl <;> decide
theorem kp_ok {V : Int → Int → Int} {b r n g : Int} (b0 : 0 ≤ b) (b1 : b ≤ 341) (r0 : 0 ≤ r) (r4 : r ≤ 4) (ok : ∀ n, OKc b (V n g)) : OKc (4 * b) (kp0 V r n g) ∧ (0 ≤ sumn (fun i => V (n * r + i) g) 0 r.toNat ∧ sumn (fun i => V (n * r + i) g) 0 r.toNat ≤ 50000) ∧ (0 ≤ sumn (fun i => rl (V (n * r + i) g)) 0 r.toNat ∧ sumn (fun i => rl (V (n * r + i) g)) 0 r.toNat ≤ 50000) ∧ (if sumn (fun i => rl (V (n * r + i) g)) 0 r.toNat < 9999 then sumn (fun i => rl (V (n * r + i) g)) 0 r.toNat else 9999) = rl (kp0 V r n g) := by
  have s := sum_ok (f := fun i => V (n * r + i) g) b0 r.toNat (by omega) (fun i _ _ => ok _)
  have e : b * ((r.toNat : Nat) : Int) ≤ 4 * b := by
    rw [Int.mul_comm]
    exact Int.mul_le_mul_of_nonneg_right (by omega) b0
  have e2 : (10000 : Int) * ((r.toNat : Nat) : Int) ≤ 40000 := by omega
  exact kp_ar b1 (by
    rcases s with ⟨s1, s2, s3, s4⟩ | s | ⟨s1, s2, s3, s4⟩
    · exact Or.inl ⟨s1, by omega, s3⟩
    · omega
    · exact Or.inr ⟨s1, by omega, s3, by omega⟩)
def entM (f : Int → Int) : Nat → Int
  | 0 => 9999
  | m + 1 => if 1 + f (m : Int) < entM f m then 1 + f (m : Int) else entM f m
theorem ch_ok {f : Int → Int} {B : Int} (B1 : B ≤ 1500) : ∀ m : Nat, (∀ i : Int, 0 ≤ i → i < m → OKc B (f i)) → (0 ≤ chk f m ∧ chk f m ≤ B ∧ entM (fun i => rl (f i)) m = chk f m + 1) ∨ (chk f m = 10000 ∧ entM (fun i => rl (f i)) m = 9999) := by
  intro m
  induction m with
  | zero =>
    intro _
    exact Or.inr ⟨rfl, rfl⟩
  | succ m ih =>
    intro ok
    have i := ih (fun j j0 j1 => ok j j0 (by omega))
    have o := ok m (by omega) (by omega)
    have e1 : chk f (m + 1) = m_mn (chk f m) (f (m : Int)) := rfl
    have e2 : entM (fun i => rl (f i)) (m + 1) = if 1 + rl (f (m : Int)) < entM (fun i => rl (f i)) m then 1 + rl (f (m : Int)) else entM (fun i => rl (f i)) m := rfl
    unfold OKc at o
    unfold m_mn at e1
    have hr : (f (m : Int) = 10000 ∧ rl (f (m : Int)) = 9999) ∨ (0 ≤ f (m : Int) ∧ f (m : Int) ≤ B ∧ rl (f (m : Int)) = f (m : Int)) := by
      unfold rl
      split <;> omega
    split at e1 <;> split at e2 <;> omega
theorem jn_ok {V : Int → Int → Int} {b r s n : Int} (b0 : 0 ≤ b) (b1 : b ≤ 341) (r0 : 0 ≤ r) (r4 : r ≤ 4) (ok : ∀ n g, OKc b (V n g)) (g : Int) : OKc (4 * b + 1) (jn0 V r s n g) ∧ (if rl (kp0 V r n g) < entM (fun i => rl (kp0 V r n i)) s.toNat then rl (kp0 V r n g) else entM (fun i => rl (kp0 V r n i)) s.toNat) = rl (jn0 V r s n g) ∧ ((0 ≤ chk (kp0 V r n) s.toNat ∧ chk (kp0 V r n) s.toNat ≤ 10000) ∧ 0 ≤ entM (fun i => rl (kp0 V r n i)) s.toNat ∧ entM (fun i => rl (kp0 V r n i)) s.toNat ≤ 10000) := by
  have k := fun g => (kp_ok (n := n) b0 b1 r0 r4 (fun n => ok n g)).1
  have c := ch_ok (f := kp0 V r n) (B := 4 * b) (by omega) s.toNat (fun i _ _ => k i)
  have kg := k g
  have hr : (kp0 V r n g = 10000 ∧ rl (kp0 V r n g) = 9999) ∨ (0 ≤ kp0 V r n g ∧ kp0 V r n g ≤ 4 * b ∧ rl (kp0 V r n g) = kp0 V r n g) := by
    unfold OKc at kg
    unfold rl
    split <;> omega
  have r := jn_ar b0 b1 hr c
  exact ⟨r.1, r.2, by omega⟩
theorem lv_ok {S : Int → Int} (F : WfF S) (f1 : S 0 = 1) : ∀ k : Nat, k ≤ 4 → ∀ n g, OKc (bb k) (lv S k n g) := by
  have fw := frw F f1
  intro k
  induction k with
  | zero =>
    intro _ n g
    show OKc 1 (lf S n g)
    unfold OKc lf
    split
    · omega
    split <;> omega
  | succ k ih =>
    intro hk n g
    have b := bb_b (show k ≤ 4 by omega)
    exact (jn_ok (by omega) (by omega) (by omega) (by omega) (ih (by omega)) g).1
theorem lv_6 {S : Int → Int} (F : WfF S) (f1 : S 0 = 1) : ∀ k : Nat, k ≤ 4 → ∀ n, 0 ≤ lv S k n 6 ∧ lv S k n 6 ≤ bb k := by
  have fw := frw F f1
  intro k
  induction k with
  | zero =>
    intro _ n
    show 0 ≤ lf S n 6 ∧ lf S n 6 ≤ 1
    unfold lf
    rw [if_pos rfl]
    by_cases c : hol S n = -1
    · rw [if_pos c]
      omega
    · rw [if_neg c, if_neg c]
      omega
  | succ k ih =>
    intro hk n
    have b := bb_b (show k ≤ 4 by omega)
    have i := ih (by omega)
    have ok := lv_ok F f1 k (by omega)
    have sb := sumn_b (g := fun j => lv S k (n * S 1 + j) 6) (b := 0) (B := bb k) (S 1).toNat (fun j _ _ => i _)
    have e : bb k * (((S 1).toNat : Nat) : Int) ≤ 4 * bb k := by
      rw [Int.mul_comm]
      exact Int.mul_le_mul_of_nonneg_right (by omega) (by omega)
    have c := (jn_ok (b := bb k) (r := S 1) (s := S 3) (n := n) (by omega) (by omega) (by omega) (by omega) ok 6).2.2.1
    show 0 ≤ jn0 (lv S k) (S 1) (S 3) n 6 ∧ jn0 (lv S k) (S 1) (S 3) n 6 ≤ 4 * bb k + 1
    have m1 := mn_b2 (x := sumn (fun j => lv S k (n * S 1 + j) 6) 0 (S 1).toNat) (y := 10000)
    have m2 := mn_b2 (x := kp0 (lv S k) (S 1) n 6) (y := m_mn (chk (kp0 (lv S k) (S 1) n) (S 3).toNat + 1) 10000)
    have m3 := mn_b2 (x := chk (kp0 (lv S k) (S 1) n) (S 3).toNat + 1) (y := 10000)
    have ek : kp0 (lv S k) (S 1) n 6 = m_mn (sumn (fun j => lv S k (n * S 1 + j) 6) 0 (S 1).toNat) 10000 := rfl
    have ej : jn0 (lv S k) (S 1) (S 3) n 6 = m_mn (kp0 (lv S k) (S 1) n 6) (m_mn (chk (kp0 (lv S k) (S 1) n) (S 3).toNat + 1) 10000) := rfl
    omega
/-! the class -/
theorem feC32 {S : Int → Int} {c : Int} {K : MH → Option (Int × MH)} (c0 : 0 ≤ c) (c1 : c < 256) : ∀ (m f : Nat) (v : Int) (h : MH), m < f → v + m = 7 → 0 ≤ v → ∃ h', GX1_fewestEntries_L32 7 c (hol S c) K f v h = K h' ∧ Fr (fun a _ => a = 308) h h' ∧ (∀ g, v ≤ g → g < 7 → m_rd h' 308 (7 * c + g) = lf S c g) ∧ ∀ j, ¬ (7 * c + v ≤ j ∧ j < 7 * c + 7) → m_rd h' 308 j = m_rd h 308 j := by
  intro m
  induction m with
  | zero =>
    intro f v h hf hv v0
    obtain ⟨q, rfl⟩ : ∃ q, f = q + 1 := ⟨f - 1, by omega⟩
    conv => enter [1, h', 1, 1]; unfold GX1_fewestEntries_L32
    rw [if_neg (by omega)]
    exact ⟨h, rfl, Fr.rf, fun g g0 g1 => by omega, fun j _ => rfl⟩
  | succ m ih =>
    intro f v h hf hv v0
    obtain ⟨q, rfl⟩ : ∃ q, f = q + 1 := ⟨f - 1, by omega⟩
    conv => enter [1, h', 1, 1]; unfold GX1_fewestEntries_L32
    rw [if_pos (by omega), w32_id (x := c * 7) (by omega) (by omega), w32_id (x := c * 7 + v) (by omega) (by omega), w32_id (x := v + 1) (by omega) (by omega), show c * 7 + v = 7 * c + v by omega]
    have go : ∀ y, y = lf S c v → ∃ h', gd [IB (7 * c + v) 1792] (GX1_fewestEntries_L32 7 c (hol S c) K q (v + 1) (m_wr h 308 (7 * c + v) y)) = K h' ∧ Fr (fun a _ => a = 308) h h' ∧ (∀ g, v ≤ g → g < 7 → m_rd h' 308 (7 * c + g) = lf S c g) ∧ ∀ j, ¬ (7 * c + v ≤ j ∧ j < 7 * c + 7) → m_rd h' 308 j = m_rd h 308 j := by
      intro y hy
      obtain ⟨h', e', F', a1, a2⟩ := ih q (v + 1) (m_wr h 308 (7 * c + v) y) (by omega) (by omega) (by omega)
      rw [gd_ib (by omega) (by omega), gd_nil]
      refine ⟨h', e', Fr.tr (Fr.wr Fr.rf rfl) F', fun g g0 g1 => ?_, fun j z => ?_⟩
      · by_cases cg : g = v
        · rw [cg, a2 _ (by omega), rd_eq rfl rfl, hy]
        · exact a1 g (by omega) g1
      · rw [a2 j (by omega), rd_ne (by omega)]
    simp only [jn]
    unfold lf at go
    have hv' : (if v = 6 then (-1 : Int) else v) = (if v = 6 then -1 else v) := rfl
    by_cases c6 : v = 6
    · rw [if_pos c6]
      rw [if_pos c6] at go
      by_cases ch : hol S c = -1
      · rw [if_pos ch, if_neg (by decide)]
        exact go 0 (by rw [if_pos ch])
      · rw [if_neg ch, if_pos trivial, if_neg ch]
        exact go 1 (by rw [if_neg ch, if_neg ch])
    · rw [if_neg c6]
      rw [if_neg c6] at go
      by_cases ch : hol S c = v
      · rw [if_pos ch, if_neg (by decide)]
        exact go 0 (by rw [if_pos ch])
      · rw [if_neg ch, if_pos trivial]
        by_cases cl : hol S c = -1
        · rw [if_pos cl]
          exact go 10000 (by rw [if_neg ch, if_pos cl])
        · rw [if_neg cl]
          exact go 1 (by rw [if_neg ch, if_neg cl])
theorem feC5 {S : Int → Int} {K : MH → Option (Int × MH)} : ∀ (m f : Nat) (v : Int) (h : MH), m < f → v + m = cod S → 0 ≤ v → Dr h S → (∀ n g, 0 ≤ n → n < v → 0 ≤ g → g < 7 → m_rd h 308 (7 * n + g) = lf S n g) → ∃ h', GX1_fewestEntries_L5 7 K f v h = K h' ∧ Fr (fun a _ => a = 308) h h' ∧ ∀ n g, 0 ≤ n → n < cod S → 0 ≤ g → g < 7 → m_rd h' 308 (7 * n + g) = lf S n g := by
  intro m
  induction m with
  | zero =>
    intro f v h hf hv v0 D done
    obtain ⟨q, rfl⟩ : ∃ q, f = q + 1 := ⟨f - 1, by omega⟩
    conv => enter [1, h', 1, 1]; unfold GX1_fewestEntries_L5
    rw [D.2.2.1.1, gd_cons D.2.2.1.2.2.1, gd_nil, D.2.2.2.1.2.2.2.1, if_neg (by omega)]
    exact ⟨h, rfl, Fr.rf, fun n g n0 n1 g0 g1 => done n g n0 (by omega) g0 g1⟩
  | succ m ih =>
    intro f v h hf hv v0 D done
    obtain ⟨q, rfl⟩ : ∃ q, f = q + 1 := ⟨f - 1, by omega⟩
    have cb := cod_b D.1
    conv => enter [1, h', 1, 1]; unfold GX1_fewestEntries_L5
    obtain ⟨h1, e1, F1, a1, a2⟩ := feC32 (S := S) (c := v) (K := fun h3 => GX1_fewestEntries_L5 7 K q (m_w32 (v + 1)) h3) v0 (by omega) 7 FU 0 h (by unfold FU; omega) (by omega) (by omega)
    rw [D.2.2.1.1, gd_cons D.2.2.1.2.2.1, gd_nil, D.2.2.2.1.2.2.2.1, if_pos (by omega), if_pos (by omega), D.hf v0 (by omega), bd_some, e1, w32_id (x := v + 1) (by omega) (by omega)]
    obtain ⟨h', e', F', b'⟩ := ih q (v + 1) h1 (by omega) (by omega) (by omega) (D.cg (F1.wk (fun a j z => by omega))) (fun n g n0 n1 g0 g1 => by
      by_cases c : n = v
      · rw [c]
        exact a1 g g0 g1
      · rw [a2 _ (by omega)]
        exact done n g n0 (by omega) g0 g1)
    exact ⟨h', e', F1.tr F', b'⟩
/-- a level of costs while nodes before n are done -/
def CoR (V V' : Int → Int → Int) (n N : Int) (r : Int → Int) : Prop := (∀ i g, 0 ≤ i → i < n → 0 ≤ g → g < 7 → r (7 * i + g) = V' i g) ∧ ∀ i g, n ≤ i → i < N → 0 ≤ g → g < 7 → r (7 * i + g) = V i g
theorem jc22 {S : Int → Int} {V : Int → Int → Int} {n g u : Int} {h : MH} {K : Int → MH → Option MH} (D : Dr h S) (f1 : S 0 = 1) (n0 : 0 ≤ n) (n1 : n * S 1 + S 1 ≤ 256) (g0 : 0 ≤ g) (g1 : g < 7) (hV : ∀ i, 0 ≤ i → i < S 1 → m_rd h 308 (7 * (n * S 1 + i) + g) = V (n * S 1 + i) g) (ok : ∀ n, 0 ≤ V n g ∧ V n g ≤ 10000) : ∀ (m f v : Nat), m < f → (v : Int) + m = S 1 → GX1_joinCosts_L22 n 7 u g K f (sumn (fun i => V (n * S 1 + i) g) 0 v) v h = K (sumn (fun i => V (n * S 1 + i) g) 0 (S 1).toNat) h := by
  have fw := frw D.1 f1
  have nn : 0 ≤ n * S 1 := Int.mul_nonneg n0 (by omega)
  intro m
  induction m with
  | zero =>
    intro f v hf hv
    obtain ⟨q, rfl⟩ : ∃ q, f = q + 1 := ⟨f - 1, by omega⟩
    conv => lhs; unfold GX1_joinCosts_L22
    rw [D.2.2.1.1, gd_cons D.2.2.1.2.2.1, gd_nil, D.2.2.2.1.1, if_neg (by omega), show (S 1).toNat = v by omega]
  | succ m ih =>
    intro f v hf hv
    obtain ⟨q, rfl⟩ : ∃ q, f = q + 1 := ⟨f - 1, by omega⟩
    have sb := sumn_b (g := fun i => V (n * S 1 + i) g) (b := 0) (B := 10000) v (fun i _ _ => ok _)
    have sb2 := ok (n * S 1 + v)
    conv => lhs; unfold GX1_joinCosts_L22
    rw [D.2.2.1.1, gd_cons D.2.2.1.2.2.1, gd_nil, D.2.2.2.1.1, if_pos (by omega), w32_id (x := n * S 1) (by omega) (by omega), w32_id (x := n * S 1 + v) (by omega) (by omega), w32_id (x := (n * S 1 + v) * 7) (by omega) (by omega), w32_id (x := (n * S 1 + v) * 7 + g) (by omega) (by omega), gd_cons D.2.2.1.2.2.1, gd_ib (by omega) (by omega), gd_nil, show (n * S 1 + (v : Int)) * 7 + g = 7 * (n * S 1 + v) + g by omega, hV v (by omega) (by omega), w32_id (x := (v : Int) + 1) (by omega) (by omega), w32_id (x := sumn (fun i => V (n * S 1 + i) g) 0 v + V (n * S 1 + v) g) (by omega) (by omega)]
    have i := ih q (v + 1) (by omega) (by omega)
    have e : sumn (fun i => V (n * S 1 + i) g) 0 (v + 1) = sumn (fun i => V (n * S 1 + i) g) 0 v + V (n * S 1 + v) g := by
      show sumn (fun i => V (n * S 1 + i) g) 0 v + V (n * S 1 + (0 + (v : Int))) g = _
      rw [Int.zero_add]
    rw [e] at i
    exact i
theorem OKc.b {b x : Int} (h : OKc b x) (b1 : b ≤ 10000) : 0 ≤ x ∧ x ≤ 10000 := by
  unfold OKc at h
  omega
theorem jc10 {S : Int → Int} {V : Int → Int → Int} {n b : Int} {K : Int → MH → Option MH} (f1 : S 0 = 1) (n0 : 0 ≤ n) (n1 : n * S 1 + S 1 ≤ 256) (b0 : 0 ≤ b) (b1 : b ≤ 341) (ok : ∀ n g, OKc b (V n g)) : ∀ (m f v : Nat) (h : MH), m < f → (v : Int) + m = 7 → Dr h S → (∀ i g, 0 ≤ i → i < S 1 → 0 ≤ g → g < 7 → m_rd h 308 (7 * (n * S 1 + i) + g) = V (n * S 1 + i) g) → (∀ g : Int, 0 ≤ g → g < (v : Int) → m_rd h 309 g = kp0 V (S 1) n g) → ∃ h', GX1_joinCosts_L10 n 7 K f (chk (kp0 V (S 1) n) (if (v : Int) < S 3 then v else (S 3).toNat)) v h = K (chk (kp0 V (S 1) n) (S 3).toNat) h' ∧ Fr (fun a _ => a = 309) h h' ∧ ∀ g, 0 ≤ g → g < 7 → m_rd h' 309 g = kp0 V (S 1) n g := by
  intro m
  induction m with
  | zero =>
    intro f v h hf hv D hV done
    obtain ⟨q, rfl⟩ : ∃ q, f = q + 1 := ⟨f - 1, by omega⟩
    have fw := frw D.1 f1
    conv => enter [1, h', 1, 1]; unfold GX1_joinCosts_L10
    rw [if_neg (show ¬ (v : Int) < 7 by omega), if_neg (show ¬ (v : Int) < S 3 by omega)]
    exact ⟨h, rfl, Fr.rf, fun g g0 g1 => done g g0 (by omega)⟩
  | succ m ih =>
    intro f v h hf hv D hV done
    obtain ⟨q, rfl⟩ : ∃ q, f = q + 1 := ⟨f - 1, by omega⟩
    have fw := frw D.1 f1
    conv => enter [1, h', 1, 1]; unfold GX1_joinCosts_L10
    rw [if_pos (show (v : Int) < 7 by omega)]
    have L := fun (u : Int) (K' : Int → MH → Option MH) => jc22 (V := V) (n := n) (g := v) (u := u) (K := K') D f1 n0 n1 (by omega) (by omega) (fun i i0 i1 => hV i v i0 i1 (by omega) (by omega)) (fun n => (ok n v).b (by omega)) (S 1).toNat FU 0 (by unfold FU; omega) (by omega)
    have k := kp_ok (n := n) (g := v) (r := S 1) b0 b1 (by omega) (by omega) (fun n => ok n v)
    have Fv : Fr (fun a _ => a = 309) h (m_wr h 309 v (kp0 V (S 1) n v)) := Fr.wr Fr.rf rfl
    have Dv := D.cg (Fv.wk (fun a j z => by omega))
    have nx := fun (hx : Nat) => ih q (v + 1) (m_wr h 309 v (kp0 V (S 1) n v)) (by omega) (by omega) Dv (fun i g i0 i1 g0 g1 => by rw [rd_ne (by omega)]; exact hV i g i0 i1 g0 g1) (fun g g0 g1 => by
      by_cases c : g = v
      · rw [c, rd_eq rfl rfl]
      · rw [rd_ne (Or.inr c)]
        exact done g g0 (by omega))
    have fin : ∀ x, x = chk (kp0 V (S 1) n) (if ((v + 1 : Nat) : Int) < S 3 then v + 1 else (S 3).toNat) → ∃ h', GX1_joinCosts_L10 n 7 K q x (m_w32 ((v : Int) + 1)) (m_wr h 309 v (kp0 V (S 1) n v)) = K (chk (kp0 V (S 1) n) (S 3).toNat) h' ∧ Fr (fun a _ => a = 309) h h' ∧ ∀ g, 0 ≤ g → g < 7 → m_rd h' 309 g = kp0 V (S 1) n g := by
      intro x hx
      obtain ⟨h', e', F', d'⟩ := nx 0
      rw [hx, w32_id (x := (v : Int) + 1) (by omega) (by omega)]
      exact ⟨h', e', Fv.tr F', d'⟩
    have L0 := L (chk (kp0 V (S 1) n) (if (v : Int) < S 3 then v else (S 3).toNat))
    have e0 : sumn (fun i => V (n * S 1 + i) v) 0 0 = 0 := rfl
    rw [e0] at L0
    rw [show ((0 : Nat) : Int) = 0 from rfl] at L0
    rw [L0]
    rw [gd_ib (by omega) (by omega), gd_nil]
    show ∃ h', (gd [TO (m_wr h 309 v (kp0 V (S 1) n v)) (m_rd (m_wr h 309 v (kp0 V (S 1) n v)) 298 0) 8] (if (v : Int) < m_rd (m_wr h 309 v (kp0 V (S 1) n v)) (m_rd (m_wr h 309 v (kp0 V (S 1) n v)) 298 0) 2 then gd [IB v 7] (GX1_joinCosts_L10 n 7 K q (m_mn (chk (kp0 V (S 1) n) (if (v : Int) < S 3 then v else (S 3).toNat)) (m_rd (m_wr h 309 v (kp0 V (S 1) n v)) 309 v)) (m_w32 ((v : Int) + 1)) (m_wr h 309 v (kp0 V (S 1) n v))) else GX1_joinCosts_L10 n 7 K q (chk (kp0 V (S 1) n) (if (v : Int) < S 3 then v else (S 3).toNat)) (m_w32 ((v : Int) + 1)) (m_wr h 309 v (kp0 V (S 1) n v)))) = _ ∧ _
    rw [Dv.2.2.1.1, gd_cons Dv.2.2.1.2.2.1, gd_nil, Dv.2.2.2.1.2.2.1, rd_eq rfl rfl]
    by_cases c : (v : Int) < S 3
    · rw [if_pos c, gd_ib (by omega) (by omega), gd_nil, if_pos c]
      refine fin _ ?_
      by_cases c2 : ((v + 1 : Nat) : Int) < S 3
      · rw [if_pos c2]
        rfl
      · rw [if_neg c2, show (S 3).toNat = v + 1 by omega]
        rfl
    · rw [if_neg c, if_neg c]
      refine fin _ ?_
      rw [if_neg (by omega)]
theorem jc115 {n x : Int} {k : Int → Int} {K : MH → Option MH} (n0 : 0 ≤ n) (n1 : n < 256) : ∀ (m f : Nat) (v : Int) (h : MH), m < f → v + m = 7 → 0 ≤ v → 0 ≤ x → x ≤ 10000 → (∀ g, 0 ≤ g → g < 7 → m_rd h 309 g = k g) → ∃ h', GX1_joinCosts_L115 n 7 x K f v h = K h' ∧ Fr (fun a _ => a = 308) h h' ∧ (∀ g, v ≤ g → g < 7 → m_rd h' 308 (7 * n + g) = m_mn (k g) (m_mn (x + 1) 10000)) ∧ ∀ j, ¬ (7 * n + v ≤ j ∧ j < 7 * n + 7) → m_rd h' 308 j = m_rd h 308 j := by
  intro m
  induction m with
  | zero =>
    intro f v h hf hv v0 x0 x1 hk
    obtain ⟨q, rfl⟩ : ∃ q, f = q + 1 := ⟨f - 1, by omega⟩
    conv => enter [1, h', 1, 1]; unfold GX1_joinCosts_L115
    rw [if_neg (by omega)]
    exact ⟨h, rfl, Fr.rf, fun g g0 g1 => by omega, fun j _ => rfl⟩
  | succ m ih =>
    intro f v h hf hv v0 x0 x1 hk
    obtain ⟨q, rfl⟩ : ∃ q, f = q + 1 := ⟨f - 1, by omega⟩
    conv => enter [1, h', 1, 1]; unfold GX1_joinCosts_L115
    simp only [hl]
    rw [if_pos (by omega), gd_ib v0 (by omega), gd_nil, w32_id (x := n * 7) (by omega) (by omega), w32_id (x := n * 7 + v) (by omega) (by omega), gd_ib (by omega) (by omega), gd_nil, hk v v0 (by omega), w32_id (x := x + 1) (by omega) (by omega), w32_id (x := v + 1) (by omega) (by omega), show n * 7 + v = 7 * n + v by omega]
    obtain ⟨h', e', F', a1, a2⟩ := ih q (v + 1) (m_wr h 308 (7 * n + v) (m_mn (k v) (m_mn (x + 1) 10000))) (by omega) (by omega) (by omega) x0 x1 (fun g g0 g1 => by rw [rd_ne (by omega)]; exact hk g g0 g1)
    refine ⟨h', e', Fr.tr (Fr.wr Fr.rf rfl) F', fun g g0 g1 => ?_, fun j z => ?_⟩
    · by_cases cg : g = v
      · rw [cg, a2 _ (by omega), rd_eq rfl rfl]
      · exact a1 g (by omega) g1
    · rw [a2 j (by omega), rd_ne (by omega)]
theorem joinCosts_ok {S : Int → Int} {V : Int → Int → Int} {n b : Int} {h : MH} (f1 : S 0 = 1) (n0 : 0 ≤ n) (n1 : n * S 1 + S 1 ≤ 256) (b0 : 0 ≤ b) (b1 : b ≤ 341) (ok : ∀ n g, OKc b (V n g)) (D : Dr h S) (hV : ∀ i g, 0 ≤ i → i < S 1 → 0 ≤ g → g < 7 → m_rd h 308 (7 * (n * S 1 + i) + g) = V (n * S 1 + i) g) : ∃ h', GX1_joinCosts n h = some h' ∧ Fr (fun a _ => a = 308 ∨ a = 309) h h' ∧ (∀ g, 0 ≤ g → g < 7 → m_rd h' 308 (7 * n + g) = jn0 V (S 1) (S 3) n g) ∧ ∀ j, ¬ (7 * n ≤ j ∧ j < 7 * n + 7) → m_rd h' 308 j = m_rd h 308 j := by
  have fw := frw D.1 f1
  have nn : n ≤ n * S 1 := by
    have := Int.mul_le_mul_of_nonneg_left (show (1 : Int) ≤ S 1 by omega) n0
    rw [Int.mul_one] at this
    exact this
  obtain ⟨h1, e1, F1, k1⟩ := jc10 (K := fun w1 h2 => GX1_joinCosts_L115 n 7 w1 (fun h3 => some h3) FU 0 h2) f1 n0 n1 b0 b1 ok 7 FU 0 h (by unfold FU; omega) (by omega) D hV (fun g g0 g1 => by omega)
  rw [show ((0 : Nat) : Int) = 0 from rfl, if_pos (show (0 : Int) < S 3 by omega)] at e1
  have cb := (jn_ok (r := S 1) (s := S 3) (n := n) b0 b1 (by omega) (by omega) ok 0).2.2.1
  obtain ⟨h2, e2, F2, a1, a2⟩ := jc115 (n := n) (x := chk (kp0 V (S 1) n) (S 3).toNat) (k := kp0 V (S 1) n) (K := fun h3 => some h3) n0 (by omega) 7 FU 0 h1 (by unfold FU; omega) (by omega) (by omega) cb.1 cb.2 k1
  unfold GX1_joinCosts
  refine ⟨h2, ?_, (F1.wk (fun a j z => Or.inr z)).tr (F2.wk (fun a j z => Or.inl z)), fun g g0 g1 => a1 g g0 g1, fun j z => ?_⟩
  · refine Eq.trans e1 ?_
    exact e2
  · rw [a2 j (by omega), F1.rd (by omega)]
theorem feC122 {S : Int → Int} {V : Int → Int → Int} {d b : Int} {K : MH → Option (Int × MH)} (f1 : S 0 = 1) (d0 : 0 ≤ d) (d1 : d < S 2) (b0 : 0 ≤ b) (b1 : b ≤ 341) (ok : ∀ n g, OKc b (V n g)) : ∀ (m f : Nat) (v : Int) (h : MH), m < f → v + m = pw (S 1) d → 0 ≤ v → Dr h S → CoR V (jn0 V (S 1) (S 3)) v (pw (S 1) (d + 1)) (m_rd h 308) → ∃ h', GX1_fewestEntries_L122 d K f v h = K h' ∧ Fr (fun a _ => a = 308 ∨ a = 309) h h' ∧ CoR V (jn0 V (S 1) (S 3)) (pw (S 1) d) (pw (S 1) d) (m_rd h' 308) := by
  intro m
  induction m with
  | zero =>
    intro f v h hf hv v0 D C
    obtain ⟨q, rfl⟩ : ∃ q, f = q + 1 := ⟨f - 1, by omega⟩
    have fw := frw D.1 f1
    have pe : GX8_prefixesOf 21 d h = some (pw (S 1) d, h) := by
      unfold GX8_prefixesOf
      rw [if_neg (by omega), if_neg (by omega), gd_ib d0 (by omega), gd_nil, D.2.2.2.1.2.2.2.2.1 d d0 (by omega), if_pos f1]
    conv => enter [1, h', 1, 1]; unfold GX1_fewestEntries_L122
    rw [D.2.2.1.1, gd_cons D.2.2.1.2.2.1, gd_nil, pe, bd_some, if_neg (by omega)]
    exact ⟨h, rfl, Fr.rf, fun i g i0 i1 g0 g1 => C.1 i g i0 (by omega) g0 g1, fun i g i0 i1 => by omega⟩
  | succ m ih =>
    intro f v h hf hv v0 D C
    obtain ⟨q, rfl⟩ : ∃ q, f = q + 1 := ⟨f - 1, by omega⟩
    have fw := frw D.1 f1
    have cb := cod_b D.1
    have hc : cod S = pw (S 1) (S 2) := by
      unfold cod
      rw [if_pos f1]
    have pe : GX8_prefixesOf 21 d h = some (pw (S 1) d, h) := by
      unfold GX8_prefixesOf
      rw [if_neg (by omega), if_neg (by omega), gd_ib d0 (by omega), gd_nil, D.2.2.2.1.2.2.2.2.1 d d0 (by omega), if_pos f1]
    have ps := pw_s (b := S 1) (n := d) d0
    have pl := pw_le (b := S 1) (m := d + 1) (n := S 2) (by omega) (by omega) (by omega)
    have m1 : (v + 1) * S 1 ≤ pw (S 1) d * S 1 := Int.mul_le_mul_of_nonneg_right (by omega) (by omega)
    rw [Int.add_mul, Int.one_mul] at m1
    have nn : v ≤ v * S 1 := by
      have := Int.mul_le_mul_of_nonneg_left (show (1 : Int) ≤ S 1 by omega) v0
      rw [Int.mul_one] at this
      exact this
    obtain ⟨h1, e1, F1, a1, a2⟩ := joinCosts_ok (V := V) (n := v) f1 v0 (by omega) b0 b1 ok D (fun i g i0 i1 g0 g1 => C.2 _ g (by omega) (by omega) g0 g1)
    conv => enter [1, h', 1, 1]; unfold GX1_fewestEntries_L122
    rw [D.2.2.1.1, gd_cons D.2.2.1.2.2.1, gd_nil, pe, bd_some, if_pos (by omega), e1, bv_some, w32_id (x := v + 1) (by omega) (by omega)]
    obtain ⟨h', e', F', C'⟩ := ih q (v + 1) h1 (by omega) (by omega) (by omega) (D.cg (F1.wk (fun a j z => by omega))) ⟨fun i g i0 i1 g0 g1 => by
      by_cases c : i = v
      · rw [c]
        exact a1 g g0 g1
      · rw [a2 _ (by omega)]
        exact C.1 i g i0 (by omega) g0 g1, fun i g i0 i1 g0 g1 => by
      rw [a2 _ (by omega)]
      exact C.2 i g (by omega) i1 g0 g1⟩
    exact ⟨h', e', F1.tr F', C'⟩
theorem feC116 {S : Int → Int} {K : MH → Option (Int × MH)} (f1 : S 0 = 1) : ∀ (d f k : Nat) (h : MH), d < f → (d : Int) + k = S 2 → Dr h S → (∀ n g, 0 ≤ n → n < pw (S 1) d → 0 ≤ g → g < 7 → m_rd h 308 (7 * n + g) = lv S k n g) → ∃ h', GX1_fewestEntries_L116 K f ((d : Int) - 1) h = K h' ∧ Fr (fun a _ => a = 308 ∨ a = 309) h h' ∧ m_rd h' 308 6 = lv S (d + k) 0 6 := by
  intro d
  induction d with
  | zero =>
    intro f k h hf hd D hv
    obtain ⟨q, rfl⟩ : ∃ q, f = q + 1 := ⟨f - 1, by omega⟩
    conv => enter [1, h', 1, 1]; unfold GX1_fewestEntries_L116
    rw [if_pos (by omega), Nat.zero_add]
    refine ⟨h, rfl, Fr.rf, ?_⟩
    have := hv 0 6 (by omega) (by rw [show ((0 : Nat) : Int) = 0 from rfl, pw_0]; decide) (by omega) (by omega)
    rw [show 7 * (0 : Int) + 6 = 6 from rfl] at this
    exact this
  | succ d ih =>
    intro f k h hf hd D hv
    obtain ⟨q, rfl⟩ : ∃ q, f = q + 1 := ⟨f - 1, by omega⟩
    have fw := frw D.1 f1
    have ok := lv_ok D.1 f1 k (by omega)
    have b := bb_b (show k ≤ 4 by omega)
    have pb := pw_b (b := S 1) (n := d) (by omega) (by omega) (by omega) (by omega)
    have pp := pw_p (b := S 1) (n := d) (by omega)
    rw [show ((d + 1 : Nat) : Int) = (d : Int) + 1 by omega] at hv
    obtain ⟨h1, e1, F1, C1⟩ := feC122 (d := d) (K := fun h1 => GX1_fewestEntries_L116 K q (m_w32 ((d : Int) + (-1))) h1) f1 (by omega) (by omega) (by omega) (by omega) ok (pw (S 1) d).toNat FU 0 h (by unfold FU; omega) (by omega) (by omega) D ⟨fun i g i0 i1 => by omega, fun i g i0 i1 g0 g1 => hv i g i0 i1 g0 g1⟩
    conv => enter [1, h', 1, 1]; unfold GX1_fewestEntries_L116
    rw [show ((d + 1 : Nat) : Int) - 1 = (d : Int) by omega, if_neg (by omega), e1, w32_id (x := (d : Int) + (-1)) (by omega) (by omega), show (d : Int) + -1 = (d : Int) - 1 by omega]
    obtain ⟨h', e', F', a'⟩ := ih q (k + 1) h1 (by omega) (by omega) (D.cg (F1.wk (fun a j z => by omega))) (fun n g n0 n1 g0 g1 => C1.1 n g n0 n1 g0 g1)
    rw [show d + (k + 1) = d + 1 + k by omega] at a'
    exact ⟨h', e', F1.tr F', a'⟩
theorem fewest_ok {S : Int → Int} {h : MH} (f1 : S 0 = 1) (D : Dr h S) : ∃ h', GX1_fewestEntries h = some (lv S (S 2).toNat 0 6, h') ∧ Fr (fun a _ => a = 308 ∨ a = 309) h h' := by
  have fw := frw D.1 f1
  have cb := cod_b D.1
  have hc : cod S = pw (S 1) (S 2) := by
    unfold cod
    rw [if_pos f1]
  obtain ⟨h1, e1, F1, a1⟩ := feC5 (K := fun h1 => gd [TO h1 (m_rd h1 298 0) 8] (GX1_fewestEntries_L116 (fun h2 => some (m_rd h2 308 6, h2)) FU (m_w32 ((m_rd h1 (m_rd h1 298 0) 1) - 1)) h1)) (cod S).toNat FU 0 h (by unfold FU; omega) (by omega) (by omega) D (fun n g n0 n1 => by omega)
  have D1 := D.cg (F1.wk (fun a j z => by omega))
  obtain ⟨h2, e2, F2, a2⟩ := feC116 (K := fun h2 => some (m_rd h2 308 6, h2)) f1 (S 2).toNat FU 0 h1 (by unfold FU; omega) (by omega) D1 (fun n g n0 n1 g0 g1 => a1 n g n0 (by rw [hc]; rw [show (((S 2).toNat : Nat) : Int) = S 2 by omega] at n1; exact n1) g0 g1)
  rw [show (((S 2).toNat : Nat) : Int) = S 2 by omega] at e2
  unfold GX1_fewestEntries
  rw [e1, D1.2.2.1.1, gd_cons D1.2.2.1.2.2.1, gd_nil, D1.2.2.2.1.2.1, w32_id (x := S 2 - 1) (by omega) (by omega), e2, a2, Nat.add_zero]
  exact ⟨h2, rfl, (F1.wk (fun a j z => Or.inl z)).tr F2⟩
/-! the reference -/
theorem nc31 {S : Int → Int} {c t : Int} {K : MH → Option MH} (c0 : 0 ≤ c) (c1 : c < 256) (ht : t = if hol S c < 0 then 6 else hol S c) (hb : -1 ≤ hol S c ∧ hol S c < 6) : ∀ (m f : Nat) (v : Int) (h : MH), m < f → v + m = 7 → 0 ≤ v → ∃ h', GX12_needsOfCodes_L31 c t K f v h = K h' ∧ Fr (fun a _ => a = 348) h h' ∧ (∀ g, v ≤ g → g < 7 → m_rd h' 348 (7 * c + g) = rl (lf S c g)) ∧ ∀ j, ¬ (7 * c + v ≤ j ∧ j < 7 * c + 7) → m_rd h' 348 j = m_rd h 348 j := by
  intro m
  induction m with
  | zero =>
    intro f v h hf hv v0
    obtain ⟨q, rfl⟩ : ∃ q, f = q + 1 := ⟨f - 1, by omega⟩
    conv => enter [1, h', 1, 1]; unfold GX12_needsOfCodes_L31
    rw [if_pos (by omega)]
    exact ⟨h, rfl, Fr.rf, fun g g0 g1 => by omega, fun j _ => rfl⟩
  | succ m ih =>
    intro f v h hf hv v0
    obtain ⟨q, rfl⟩ : ∃ q, f = q + 1 := ⟨f - 1, by omega⟩
    conv => enter [1, h', 1, 1]; unfold GX12_needsOfCodes_L31
    rw [if_neg (by omega), w32_id (x := 7 * c) (by omega) (by omega), w32_id (x := 7 * c + v) (by omega) (by omega), w32_id (x := v + 1) (by omega) (by omega)]
    have go : ∀ y, y = rl (lf S c v) → ∃ h', gd [IB (7 * c + v) 1792] (GX12_needsOfCodes_L31 c t K q (v + 1) (m_wr h 348 (7 * c + v) y)) = K h' ∧ Fr (fun a _ => a = 348) h h' ∧ (∀ g, v ≤ g → g < 7 → m_rd h' 348 (7 * c + g) = rl (lf S c g)) ∧ ∀ j, ¬ (7 * c + v ≤ j ∧ j < 7 * c + 7) → m_rd h' 348 j = m_rd h 348 j := by
      intro y hy
      obtain ⟨h', e', F', a1, a2⟩ := ih q (v + 1) (m_wr h 348 (7 * c + v) y) (by omega) (by omega) (by omega)
      rw [gd_ib (by omega) (by omega), gd_nil]
      refine ⟨h', e', Fr.tr (Fr.wr Fr.rf rfl) F', fun g g0 g1 => ?_, fun j z => ?_⟩
      · by_cases cg : g = v
        · rw [cg, a2 _ (by omega), rd_eq rfl rfl, hy]
        · exact a1 g (by omega) g1
      · rw [a2 j (by omega), rd_ne (by omega)]
    have hl : (t = 6 ∧ hol S c = -1) ∨ (t = hol S c ∧ 0 ≤ hol S c) := by
      rw [ht]
      split <;> omega
    by_cases e1 : v = t
    · rw [if_pos e1]
      refine go 0 ?_
      unfold lf
      rw [if_pos (by split <;> omega)]
      rfl
    · rw [if_neg e1]
      by_cases e2 : t = 6
      · rw [if_pos e2]
        refine go 9999 ?_
        unfold lf
        rw [if_neg (by split <;> omega), if_pos (by omega)]
        rfl
      · rw [if_neg e2]
        refine go 1 ?_
        unfold lf
        rw [if_neg (by split <;> omega), if_neg (by omega)]
        rfl
theorem ncM {S : Int → Int} {K : MH → Option MH} (F0 : WfF S) (E0 : WfE S) : ∀ (m f : Nat) (v : Int) (h : MH), m < f → v + m = cod S → 0 ≤ v → m_rd h 344 = S → (∀ n g, 0 ≤ n → n < v → 0 ≤ g → g < 7 → m_rd h 348 (7 * n + g) = rl (lf S n g)) → ∃ h', GX12_needsOfCodes_L2 K f v h = K h' ∧ Fr (fun a _ => a = 348) h h' ∧ ∀ n g, 0 ≤ n → n < cod S → 0 ≤ g → g < 7 → m_rd h' 348 (7 * n + g) = rl (lf S n g) := by
  have cb := cod_b F0
  have fb := F0.b
  intro m
  induction m with
  | zero =>
    intro f v h hf hv v0 sg done
    obtain ⟨q, rfl⟩ : ∃ q, f = q + 1 := ⟨f - 1, by omega⟩
    conv => enter [1, h', 1, 1]; unfold GX12_needsOfCodes_L2
    rw [codesMany_ok (by rw [sg]; exact F0), bd_some, sg, if_neg (by omega)]
    exact ⟨h, rfl, Fr.rf, fun n g n0 n1 g0 g1 => done n g n0 (by omega) g0 g1⟩
  | succ m ih =>
    intro f v h hf hv v0 sg done
    obtain ⟨q, rfl⟩ : ∃ q, f = q + 1 := ⟨f - 1, by omega⟩
    have hb := hol_b (c := v) E0
    conv => enter [1, h', 1, 1]; unfold GX12_needsOfCodes_L2
    rw [codesMany_ok (by rw [sg]; exact F0), bd_some, sg, if_pos (by omega), holeOf_ok (by rw [sg]; exact F0) (by rw [sg]; exact E0) v0 (by omega), bd_some, sg, w32_id (x := v + 1) (by omega) (by omega)]
    simp only [jn]
    have go : ∀ t, t = (if hol S v < 0 then 6 else hol S v) → ∃ h', GX12_needsOfCodes_L31 v t (fun h8 => GX12_needsOfCodes_L2 K q (v + 1) h8) FU 0 h = K h' ∧ Fr (fun a _ => a = 348) h h' ∧ ∀ n g, 0 ≤ n → n < cod S → 0 ≤ g → g < 7 → m_rd h' 348 (7 * n + g) = rl (lf S n g) := by
      intro t ht
      obtain ⟨h1, e1, F1, a1, a2⟩ := nc31 (S := S) (c := v) (t := t) (K := fun h8 => GX12_needsOfCodes_L2 K q (v + 1) h8) v0 (by omega) ht (by omega) 7 FU 0 h (by unfold FU; omega) (by omega) (by omega)
      obtain ⟨h', e', F', b'⟩ := ih q (v + 1) h1 (by omega) (by omega) (by omega) (by rw [← sg]; exact funext fun j => F1.rd (by omega)) (fun n g n0 n1 g0 g1 => by
        by_cases c : n = v
        · rw [c]
          exact a1 g g0 g1
        · rw [a2 _ (by omega)]
          exact done n g n0 (by omega) g0 g1)
      exact ⟨h', e1.trans e', F1.tr F', b'⟩
    by_cases c : hol S v < 0
    · rw [if_pos c]
      exact go 6 (by rw [if_pos c])
    · rw [if_neg c, holeOf_ok (by rw [sg]; exact F0) (by rw [sg]; exact E0) v0 (by omega), bd_some, sg]
      exact go _ (by rw [if_neg c])
theorem nbM {S : Int → Int} {V : Int → Int → Int} {n g : Int} {h : MH} {K : Int → MH → Option (Int × MH)} (sg : m_rd h 344 = S) (F0 : WfF S) (f1 : S 0 = 1) (n0 : 0 ≤ n) (n1 : n * S 1 + S 1 ≤ 256) (g0 : 0 ≤ g) (g1 : g < 7) (hV : ∀ i, 0 ≤ i → i < S 1 → m_rd h 349 (7 * (n * S 1 + i) + g) = rl (V (n * S 1 + i) g)) (ok : ∀ n, 0 ≤ V n g ∧ V n g ≤ 10000) : ∀ (m f v : Nat), m < f → (v : Int) + m = S 1 → GX12_needBelow_L5 n g K f (sumn (fun i => rl (V (n * S 1 + i) g)) 0 v) v h = K (sumn (fun i => rl (V (n * S 1 + i) g)) 0 (S 1).toNat) h := by
  have fw := frw F0 f1
  have nn : 0 ≤ n * S 1 := Int.mul_nonneg n0 (by omega)
  have ok' : ∀ n, 0 ≤ rl (V n g) ∧ rl (V n g) ≤ 10000 := fun n => by
    have := ok n
    unfold rl
    split <;> omega
  intro m
  induction m with
  | zero =>
    intro f v hf hv
    obtain ⟨q, rfl⟩ : ∃ q, f = q + 1 := ⟨f - 1, by omega⟩
    conv => lhs; unfold GX12_needBelow_L5
    rw [sg, if_neg (by omega), show (S 1).toNat = v by omega]
  | succ m ih =>
    intro f v hf hv
    obtain ⟨q, rfl⟩ : ∃ q, f = q + 1 := ⟨f - 1, by omega⟩
    have sb := sumn_b (g := fun i => rl (V (n * S 1 + i) g)) (b := 0) (B := 10000) v (fun i _ _ => ok' _)
    have sb2 := ok' (n * S 1 + v)
    conv => lhs; unfold GX12_needBelow_L5
    rw [sg, if_pos (by omega), w32_id (x := n * S 1) (by omega) (by omega), w32_id (x := n * S 1 + v) (by omega) (by omega), w32_id (x := 7 * (n * S 1 + v)) (by omega) (by omega), w32_id (x := 7 * (n * S 1 + v) + g) (by omega) (by omega), gd_ib (by omega) (by omega), gd_nil, hV v (by omega) (by omega), w32_id (x := (v : Int) + 1) (by omega) (by omega), w32_id (x := sumn (fun i => rl (V (n * S 1 + i) g)) 0 v + rl (V (n * S 1 + v) g)) (by omega) (by omega)]
    have i := ih q (v + 1) (by omega) (by omega)
    have e : sumn (fun i => rl (V (n * S 1 + i) g)) 0 (v + 1) = sumn (fun i => rl (V (n * S 1 + i) g)) 0 v + rl (V (n * S 1 + v) g) := by
      show sumn (fun i => rl (V (n * S 1 + i) g)) 0 v + rl (V (n * S 1 + (0 + (v : Int))) g) = _
      rw [Int.zero_add]
    rw [e] at i
    exact i
theorem needBelow_ok {S : Int → Int} {V : Int → Int → Int} {n g b : Int} {h : MH} (sg : m_rd h 344 = S) (F0 : WfF S) (f1 : S 0 = 1) (n0 : 0 ≤ n) (n1 : n * S 1 + S 1 ≤ 256) (g0 : 0 ≤ g) (g1 : g < 7) (b0 : 0 ≤ b) (b1 : b ≤ 341) (ok : ∀ n g, OKc b (V n g)) (hV : ∀ i g, 0 ≤ i → i < S 1 → 0 ≤ g → g < 7 → m_rd h 349 (7 * (n * S 1 + i) + g) = rl (V (n * S 1 + i) g)) : GX12_needBelow n g h = some (rl (kp0 V (S 1) n g), h) := by
  have fw := frw F0 f1
  have k := kp_ok (n := n) (g := g) (r := S 1) b0 b1 (by omega) (by omega) (fun n => ok n g)
  have L := nbM (V := V) (n := n) (g := g) (K := fun w1 h2 => if w1 < 9999 then some (w1, h2) else some (9999, h2)) sg F0 f1 n0 n1 g0 g1 (fun i i0 i1 => hV i g i0 i1 g0 g1) (fun n => (ok n g).b (by omega)) (S 1).toNat FU 0 (by unfold FU; omega) (by omega)
  unfold GX12_needBelow
  refine L.trans ?_
  rw [← k.2.2.2]
  by_cases c : sumn (fun i => rl (V (n * S 1 + i) g)) 0 (S 1).toNat < 9999
  · rw [if_pos c, if_pos c]
  · rw [if_neg c, if_neg c]
theorem no62 {f : Int → Int} {n u : Int} {s : Int} {h : MH} {K : Int → MH → Option MH} (hs : m_rd h 344 3 = s) (s0 : 0 ≤ s) (s6 : s ≤ 6) (hN : ∀ g, 0 ≤ g → g < 7 → GX12_needBelow n g h = some (f g, h)) (fb : ∀ g, 0 ≤ f g ∧ f g ≤ 10000) : ∀ (m q v : Nat), m < q → (v : Int) + m = s → GX12_needsOf_L62 u n K q (entM f v) v h = K (entM f s.toNat) h := by
  intro m
  induction m with
  | zero =>
    intro q v hf hv
    obtain ⟨q, rfl⟩ : ∃ q', q = q' + 1 := ⟨q - 1, by omega⟩
    conv => lhs; unfold GX12_needsOf_L62
    rw [hs, if_neg (by omega), show s.toNat = v by omega]
  | succ m ih =>
    intro q v hf hv
    obtain ⟨q, rfl⟩ : ∃ q', q = q' + 1 := ⟨q - 1, by omega⟩
    have b := fb v
    have i := ih q (v + 1) (by omega) (by omega)
    have e : entM f (v + 1) = if 1 + f (v : Int) < entM f v then 1 + f (v : Int) else entM f v := rfl
    rw [e, show ((v + 1 : Nat) : Int) = (v : Int) + 1 by omega] at i
    conv => lhs; unfold GX12_needsOf_L62
    rw [hs, if_pos (by omega), hN v (by omega) (by omega), bd_some, hN v (by omega) (by omega), bd_some, w32_id (x := 1 + f v) (by omega) (by omega), w32_id (x := (v : Int) + 1) (by omega) (by omega)]
    by_cases c : 1 + f (v : Int) < entM f v
    · rw [if_pos c]
      rw [if_pos c] at i
      exact i
    · rw [if_neg c]
      rw [if_neg c] at i
      exact i
theorem no105 {f : Int → Int} {n u x : Int} {K : MH → Option MH} (n0 : 0 ≤ n) (n1 : n < 256) : ∀ (m q : Nat) (v : Int) (h : MH), m < q → v + m = 7 → 0 ≤ v → (∀ h', Fr (fun a _ => a = 348) h h' → ∀ g, 0 ≤ g → g < 7 → GX12_needBelow n g h' = some (f g, h')) → ∃ h', GX12_needsOf_L105 u n x K q v h = K h' ∧ Fr (fun a _ => a = 348) h h' ∧ (∀ g, v ≤ g → g < 7 → m_rd h' 348 (7 * n + g) = if f g < x then f g else x) ∧ ∀ j, ¬ (7 * n + v ≤ j ∧ j < 7 * n + 7) → m_rd h' 348 j = m_rd h 348 j := by
  intro m
  induction m with
  | zero =>
    intro q v h hf hv v0 hN
    obtain ⟨q, rfl⟩ : ∃ q', q = q' + 1 := ⟨q - 1, by omega⟩
    conv => enter [1, h', 1, 1]; unfold GX12_needsOf_L105
    rw [if_pos (by omega)]
    exact ⟨h, rfl, Fr.rf, fun g g0 g1 => by omega, fun j _ => rfl⟩
  | succ m ih =>
    intro q v h hf hv v0 hN
    obtain ⟨q, rfl⟩ : ∃ q', q = q' + 1 := ⟨q - 1, by omega⟩
    conv => enter [1, h', 1, 1]; unfold GX12_needsOf_L105
    rw [if_neg (by omega), hN h Fr.rf v v0 (by omega), bd_some, w32_id (x := 7 * n) (by omega) (by omega), w32_id (x := 7 * n + v) (by omega) (by omega), w32_id (x := v + 1) (by omega) (by omega)]
    have go : ∀ y, y = (if f v < x then f v else x) → ∃ h', gd [IB (7 * n + v) 1792] (GX12_needsOf_L105 u n x K q (v + 1) (m_wr h 348 (7 * n + v) y)) = K h' ∧ Fr (fun a _ => a = 348) h h' ∧ (∀ g, v ≤ g → g < 7 → m_rd h' 348 (7 * n + g) = if f g < x then f g else x) ∧ ∀ j, ¬ (7 * n + v ≤ j ∧ j < 7 * n + 7) → m_rd h' 348 j = m_rd h 348 j := by
      intro y hy
      have Fv : Fr (fun a _ => a = 348) h (m_wr h 348 (7 * n + v) y) := Fr.wr Fr.rf rfl
      obtain ⟨h', e', F', a1, a2⟩ := ih q (v + 1) (m_wr h 348 (7 * n + v) y) (by omega) (by omega) (by omega) (fun h' Fh => hN h' (Fv.tr Fh))
      rw [gd_ib (by omega) (by omega), gd_nil]
      refine ⟨h', e', Fv.tr F', fun g g0 g1 => ?_, fun j z => ?_⟩
      · by_cases cg : g = v
        · rw [cg, a2 _ (by omega), rd_eq rfl rfl, hy]
        · exact a1 g (by omega) g1
      · rw [a2 j (by omega), rd_ne (by omega)]
    by_cases c : f v < x
    · rw [if_pos c]
      exact go _ (by rw [if_pos c])
    · rw [if_neg c]
      exact go _ (by rw [if_neg c])
theorem no41 {S : Int → Int} {V : Int → Int → Int} {d b : Int} {K : MH → Option MH} (F0 : WfF S) (f1 : S 0 = 1) (d0 : 0 ≤ d) (d1 : d < S 2) (b0 : 0 ≤ b) (b1 : b ≤ 341) (ok : ∀ n g, OKc b (V n g)) : ∀ (m f : Nat) (v : Int) (h : MH), m < f → v + m = pw (S 1) d → 0 ≤ v → m_rd h 344 = S → (∀ i g, 0 ≤ i → i < pw (S 1) (d + 1) → 0 ≤ g → g < 7 → m_rd h 349 (7 * i + g) = rl (V i g)) → (∀ i g, 0 ≤ i → i < v → 0 ≤ g → g < 7 → m_rd h 348 (7 * i + g) = rl (jn0 V (S 1) (S 3) i g)) → ∃ h', GX12_needsOf_L41 d K f v h = K h' ∧ Fr (fun a _ => a = 348) h h' ∧ ∀ i g, 0 ≤ i → i < pw (S 1) d → 0 ≤ g → g < 7 → m_rd h' 348 (7 * i + g) = rl (jn0 V (S 1) (S 3) i g) := by
  have fw := frw F0 f1
  have cb := cod_b F0
  have hc : cod S = pw (S 1) (S 2) := by
    unfold cod
    rw [if_pos f1]
  have ps := pw_s (b := S 1) (n := d) d0
  have pl := pw_le (b := S 1) (m := d + 1) (n := S 2) (by omega) (by omega) (by omega)
  intro m
  induction m with
  | zero =>
    intro f v h hf hv v0 sg below done
    obtain ⟨q, rfl⟩ : ∃ q, f = q + 1 := ⟨f - 1, by omega⟩
    conv => enter [1, h', 1, 1]; unfold GX12_needsOf_L41
    rw [sg, power_ok (by omega) (by omega) d0 (by omega), bd_some, if_neg (by omega)]
    exact ⟨h, rfl, Fr.rf, fun i g i0 i1 g0 g1 => done i g i0 (by omega) g0 g1⟩
  | succ m ih =>
    intro f v h hf hv v0 sg below done
    obtain ⟨q, rfl⟩ : ∃ q, f = q + 1 := ⟨f - 1, by omega⟩
    have m1 : (v + 1) * S 1 ≤ pw (S 1) d * S 1 := Int.mul_le_mul_of_nonneg_right (by omega) (by omega)
    rw [Int.add_mul, Int.one_mul] at m1
    have nn : v ≤ v * S 1 := by
      have := Int.mul_le_mul_of_nonneg_left (show (1 : Int) ≤ S 1 by omega) v0
      rw [Int.mul_one] at this
      exact this
    have nb : ∀ h', Fr (fun a _ => a = 348) h h' → ∀ g, 0 ≤ g → g < 7 → GX12_needBelow v g h' = some (rl (kp0 V (S 1) v g), h') := fun h' Fh g g0 g1 => needBelow_ok (by rw [← sg]; exact funext fun j => Fh.rd (by omega)) F0 f1 v0 (by omega) g0 g1 b0 b1 ok (fun i g i0 i1 g0 g1 => by
      rw [Fh.rd (by omega)]
      exact below _ g (by omega) (by omega) g0 g1)
    have kb : ∀ g, 0 ≤ rl (kp0 V (S 1) v g) ∧ rl (kp0 V (S 1) v g) ≤ 10000 := fun g => by
      have := (kp_ok (n := v) (g := g) (r := S 1) b0 b1 (by omega) (by omega) (fun n => ok n g)).1
      unfold OKc at this
      unfold rl
      split <;> omega
    have L1 := fun (K' : Int → MH → Option MH) => no62 (f := fun g => rl (kp0 V (S 1) v g)) (n := v) (u := d) (s := S 3) (K := K') (by rw [sg]) (by omega) (by omega) (nb h Fr.rf) kb (S 3).toNat FU 0 (by unfold FU; omega) (by omega)
    have e9 : entM (fun g => rl (kp0 V (S 1) v g)) 0 = 9999 := rfl
    rw [e9] at L1
    obtain ⟨h1, e1, F1, a1, a2⟩ := no105 (f := fun g => rl (kp0 V (S 1) v g)) (n := v) (u := d) (x := entM (fun g => rl (kp0 V (S 1) v g)) (S 3).toNat) (K := fun h5 => GX12_needsOf_L41 d K q (m_w32 (v + 1)) h5) v0 (by omega) 7 FU 0 h (by unfold FU; omega) (by omega) (by omega) nb
    conv => enter [1, h', 1, 1]; unfold GX12_needsOf_L41
    rw [sg, power_ok (by omega) (by omega) d0 (by omega), bd_some, if_pos (by omega)]
    rw [show ((0 : Nat) : Int) = 0 from rfl] at L1
    rw [L1, e1, w32_id (x := v + 1) (by omega) (by omega)]
    obtain ⟨h', e', F', d'⟩ := ih q (v + 1) h1 (by omega) (by omega) (by omega) (by rw [← sg]; exact funext fun j => F1.rd (by omega)) (fun i g i0 i1 g0 g1 => by rw [F1.rd (by omega)]; exact below i g i0 i1 g0 g1) (fun i g i0 i1 g0 g1 => by
      by_cases c : i = v
      · rw [c, a1 g g0 g1]
        exact (jn_ok (r := S 1) (s := S 3) (n := v) b0 b1 (by omega) (by omega) ok g).2.1
      · rw [a2 _ (by omega)]
        exact done i g i0 (by omega) g0 g1)
    exact ⟨h', e', F1.tr F', d'⟩
theorem no2 {S : Int → Int} {d : Int} {h : MH} {K : MH → Option MH} (sg : m_rd h 344 = S) (F0 : WfF S) (f1 : S 0 = 1) (d0 : 0 ≤ d) (d1 : d < S 2) : ∃ h', GX12_needsOf_L2 d K FU 0 h = K h' ∧ Fr (fun a _ => a = 349) h h' ∧ ∀ j, 0 ≤ j → j < 7 * pw (S 1) (d + 1) → m_rd h' 349 j = m_rd h 348 j := by
  have fw := frw F0 f1
  have cb := cod_b F0
  have hc : cod S = pw (S 1) (S 2) := by
    unfold cod
    rw [if_pos f1]
  have pl := pw_le (b := S 1) (m := d + 1) (n := S 2) (by omega) (by omega) (by omega)
  have pp := pw_p (b := S 1) (n := d + 1) (by omega)
  obtain ⟨g, e, F, p, q⟩ := cploop (L := GX12_needsOf_L2 d K) (K := K) (A := 349) (B := 348) (i0 := 0) (j0 := 0) (N := 7 * pw (S 1) (d + 1)) (P := fun x => m_rd x 344 = S) (fun f v x px v0 v1 => by
    conv => lhs; unfold GX12_needsOf_L2
    rw [px, w32_id (x := d + 1) (by omega) (by omega), power_ok (by omega) (by omega) (by omega) (by omega), bd_some, w32_id (x := 7 * pw (S 1) (d + 1)) (by omega) (by omega), if_pos v1, gd_ib v0 (by omega), gd_nil, w32_id (x := v + 1) (by omega) (by omega), Int.zero_add]) (fun f x px => by
    conv => lhs; unfold GX12_needsOf_L2
    rw [px, w32_id (x := d + 1) (by omega) (by omega), power_ok (by omega) (by omega) (by omega) (by omega), bd_some, w32_id (x := 7 * pw (S 1) (d + 1)) (by omega) (by omega), if_neg (by omega)]) (fun x i v px => by rw [rd_fo (by decide)]; exact px) (by decide) (7 * pw (S 1) (d + 1)).toNat FU 0 h (by unfold FU; omega) (by omega) (by omega) sg
  refine ⟨g, e, F.wk (fun a j z => z.1), fun j j0 j1 => ?_⟩
  have := q j j0 j1
  rw [Int.zero_add] at this
  exact this
theorem leM {S : Int → Int} {K : MH → Option (Int × MH)} (F0 : WfF S) (f1 : S 0 = 1) : ∀ (d f k : Nat) (h : MH), d < f → (d : Int) + k = S 2 → m_rd h 344 = S → (∀ n g, 0 ≤ n → n < pw (S 1) d → 0 ≤ g → g < 7 → m_rd h 348 (7 * n + g) = rl (lv S k n g)) → ∃ h', GX12_least_L22 K f ((d : Int) - 1) h = K h' ∧ Fr (fun a _ => a = 348 ∨ a = 349) h h' ∧ m_rd h' 348 6 = rl (lv S (d + k) 0 6) := by
  have fw := frw F0 f1
  intro d
  induction d with
  | zero =>
    intro f k h hf hd sg hv
    obtain ⟨q, rfl⟩ : ∃ q, f = q + 1 := ⟨f - 1, by omega⟩
    conv => enter [1, h', 1, 1]; unfold GX12_least_L22
    rw [if_pos (by omega), Nat.zero_add]
    refine ⟨h, rfl, Fr.rf, ?_⟩
    have := hv 0 6 (by omega) (by rw [show ((0 : Nat) : Int) = 0 from rfl, pw_0]; decide) (by omega) (by omega)
    rw [show 7 * (0 : Int) + 6 = 6 from rfl] at this
    exact this
  | succ d ih =>
    intro f k h hf hd sg hv
    obtain ⟨q, rfl⟩ : ∃ q, f = q + 1 := ⟨f - 1, by omega⟩
    have ok := lv_ok F0 f1 k (by omega)
    have b := bb_b (show k ≤ 4 by omega)
    have pb := pw_b (b := S 1) (n := d) (by omega) (by omega) (by omega) (by omega)
    rw [show ((d + 1 : Nat) : Int) = (d : Int) + 1 by omega] at hv
    obtain ⟨h1, e1, F1, a1⟩ := no2 (d := d) (K := fun h1 => GX12_needsOf_L41 d (fun h2 => some h2) FU 0 h1) sg F0 f1 (by omega) (by omega)
    have s1 : m_rd h1 344 = S := by
      rw [← sg]
      exact funext fun j => F1.rd (by omega)
    obtain ⟨h2, e2, F2, a2⟩ := no41 (d := d) (V := lv S k) (K := fun h2 => some h2) F0 f1 (by omega) (by omega) (by omega) (by omega) ok (pw (S 1) d).toNat FU 0 h1 (by unfold FU; omega) (by omega) (by omega) s1 (fun i g i0 i1 g0 g1 => by
      rw [a1 _ (by omega) (by omega)]
      exact hv i g i0 i1 g0 g1) (fun i g i0 i1 => by omega)
    have en : GX12_needsOf d h = some h2 := by
      unfold GX12_needsOf
      exact e1.trans e2
    conv => enter [1, h', 1, 1]; unfold GX12_least_L22
    rw [show ((d + 1 : Nat) : Int) - 1 = (d : Int) by omega, if_neg (by omega), en, bv_some, w32_id (x := (d : Int) + (-1)) (by omega) (by omega), show (d : Int) + -1 = (d : Int) - 1 by omega]
    obtain ⟨h', e', F', a'⟩ := ih q (k + 1) h2 (by omega) (by omega) (by rw [← s1]; exact funext fun j => F2.rd (by omega)) (fun n g n0 n1 g0 g1 => a2 n g n0 n1 g0 g1)
    rw [show d + (k + 1) = d + 1 + k by omega] at a'
    exact ⟨h', e', ((F1.wk (fun a j z => Or.inr z)).tr (F2.wk (fun a j z => Or.inl z))).tr F', a'⟩
theorem c_least : Call GX11_least GX12_least := by
  intro h H
  obtain ⟨⟨d1, d2, d3, d4, d5, d6, d7⟩, w1, w2, w3, w4, w5, w6, w7⟩ := H.2.2.2.1
  have cb := cod_b w1.1
  unfold GX11_least
  refine wi_be (hasFrame_ok H) ?_
  by_cases f1 : m_rd h 344 0 = 1
  · refine wi_in (by rw [t01]; exact fun z => z f1) ?_
    have fw := frw w1.1 f1
    have hc : cod (m_rd h 344) = pw (m_rd h 344 1) (m_rd h 344 2) := by
      unfold cod
      rw [if_pos f1]
    obtain ⟨g, e, F, D, I⟩ := drawNow_ok H
    obtain ⟨h4, e4, F4⟩ := fewest_ok f1 D
    refine wi_bw e (wi_be e4 (wi_ret ?_))
    have I4 : Inv h4 := I.scr (F4.wk (fun a j z => by unfold Scr; omega))
    have s4 : m_rd h4 344 = m_rd h 344 := by
      rw [← D.2.2.2.2.2]
      exact funext fun j => F4.rd (by omega)
    obtain ⟨g5, e5, G5, a5⟩ := ncM (K := fun h1 => some h1) w1.1 w1.2.1 (cod (m_rd h 344)).toNat FU 0 h4 (by unfold FU; omega) (by omega) (by omega) s4 (fun n g n0 n1 => by omega)
    have s5 : m_rd g5 344 = m_rd h 344 := by
      rw [← s4]
      exact funext fun j => G5.rd (by omega)
    obtain ⟨g6, e6, G6, a6⟩ := leM (K := fun h4 => some (m_rd h4 348 6, h4)) w1.1 f1 (m_rd h 344 2).toNat FU 0 g5 (by unfold FU; omega) (by omega) s5 (fun n g n0 n1 g0 g1 => a5 n g n0 (by rw [hc]; rw [show (((m_rd h 344 2).toNat : Nat) : Int) = m_rd h 344 2 by omega] at n1; exact n1) g0 g1)
    rw [show (((m_rd h 344 2).toNat : Nat) : Int) = m_rd h 344 2 by omega] at e6
    unfold GX12_least
    refine wi_be isFrame_ok (wi_in (by rw [t01, s4]; exact fun z => z f1) (wi_bw (show GX12_needsOfCodes h4 = some g5 from e5) ?_))
    rw [s5, w32_id (x := m_rd h 344 2 - 1) (by omega) (by omega)]
    refine wi_rw e6 (wi_ret ⟨?_, I4.scr ((G5.wk (fun a j z => by unfold Scr; omega)).tr (G6.wk (fun a j z => by unfold Scr; omega)))⟩)
    have l6 := lv_6 w1.1 f1 (m_rd h 344 2).toNat (by omega) 0
    have b := bb_b (show (m_rd h 344 2).toNat ≤ 4 by omega)
    rw [a6, Nat.add_zero]
    unfold rl
    rw [if_pos (by omega)]
  · refine wi_ip (by rw [t01]; exact f1) (wi_ret ?_)
    unfold GX12_least
    exact wi_be isFrame_ok (wi_ip (by rw [t01]; exact f1) (wi_ret ⟨rfl, H⟩))
