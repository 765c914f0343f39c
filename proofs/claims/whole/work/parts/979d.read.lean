/-! read: which digits must be read -/
/-! digits -/
theorem zr_div {c r i m : Int} (r1 : 1 ≤ r) (m0 : 0 ≤ m) (mi : m ≤ i) : (c - c / pw r i % r * pw r i) / pw r m = c / pw r m - c / pw r i % r * pw r (i - m) := by
  have pa := pw_add (b := r) (m := i - m) (n := m) (by omega) m0
  rw [show i - m + m = i by omega] at pa
  have pp := pw_p (b := r) (n := m) r1
  rw [show c / pw r i % r * pw r i = c / pw r i % r * pw r (i - m) * pw r m by rw [Int.mul_assoc, pa]]
  exact Int.sub_mul_ediv_right _ _ (by omega)
theorem zr_lo {c r i m : Int} (r1 : 1 ≤ r) (m0 : 0 ≤ m) (mi : m < i) : (c - c / pw r i % r * pw r i) / pw r m % r = c / pw r m % r := by
  rw [zr_div r1 m0 (by omega), show pw r (i - m) = pw r (i - m - 1) * r by rw [← pw_s (by omega), show i - m - 1 + 1 = i - m by omega], ← Int.mul_assoc, Int.sub_eq_add_neg, ← Int.neg_mul]
  exact Int.add_mul_emod_self_right _ _ _
theorem zr_y {y r : Int} : y - y % r = r * (y / r) := by
  have := Int.mul_ediv_add_emod y r
  omega
theorem zr_eq {c r i : Int} (r1 : 1 ≤ r) (i0 : 0 ≤ i) : (c - c / pw r i % r * pw r i) / pw r i % r = 0 := by
  rw [zr_div r1 i0 (Int.le_refl _), show i - i = 0 by omega, pw_0, Int.mul_one, zr_y]
  exact Int.mul_emod_right _ _
theorem zr_hi {c r i m : Int} (r1 : 1 ≤ r) (i0 : 0 ≤ i) (mi : i < m) : (c - c / pw r i % r * pw r i) / pw r m = c / pw r m := by
  have p0 := pw_p (b := r) (n := i) r1
  have pm : pw r m = pw r i * r * pw r (m - (i + 1)) := by
    rw [← pw_s i0, pw_add (by omega) (by omega), show i + 1 + (m - (i + 1)) = m by omega]
  have h1 : 0 ≤ pw r i * r := Int.mul_nonneg (by omega) (by omega)
  rw [pm, ← Int.ediv_ediv_of_nonneg h1, ← Int.ediv_ediv_of_nonneg h1, ← Int.ediv_ediv_of_nonneg (show 0 ≤ pw r i by omega), ← Int.ediv_ediv_of_nonneg (show 0 ≤ pw r i by omega), zr_div r1 i0 (Int.le_refl _), show i - i = 0 by omega, pw_0, Int.mul_one, zr_y, Int.mul_ediv_cancel_left _ (by omega)]
theorem dg_all {r a b : Int} (r1 : 1 ≤ r) : ∀ n : Nat, a / pw r n = b / pw r n → (∀ j : Int, 0 ≤ j → j < n → a / pw r j % r = b / pw r j % r) → a = b := by
  intro n
  induction n with
  | zero =>
    intro h _
    rw [show ((0 : Nat) : Int) = 0 from rfl, pw_0, Int.ediv_one, Int.ediv_one] at h
    exact h
  | succ n ih =>
    intro h d
    have p0 := pw_p (b := r) (n := n) r1
    refine ih ?_ (fun j j0 j1 => d j j0 (by omega))
    rw [show ((n + 1 : Nat) : Int) = (n : Int) + 1 by omega, pw_s (by omega), ← Int.ediv_ediv_of_nonneg (by omega), ← Int.ediv_ediv_of_nonneg (by omega)] at h
    have e1 := Int.mul_ediv_add_emod (a / pw r n) r
    have e2 := Int.mul_ediv_add_emod (b / pw r n) r
    have e3 := d n (by omega) (by omega)
    rw [h] at e1
    omega
/-- a code with a digit put to 0 -/
def zer (S : Int → Int) (k c : Int) : Int := c - dgt S c k * pw (S 1) (S 2 - 1 - k)
theorem zer_d {S : Int → Int} {k j c : Int} (F : WfF S) (f1 : S 0 = 1) (k0 : 0 ≤ k) (k1 : k < S 2) (j0 : 0 ≤ j) (j1 : j < S 2) : dgt S (zer S k c) j = if j = k then 0 else dgt S c j := by
  have fw := frw F f1
  unfold zer dgt
  by_cases c1 : j = k
  · rw [if_pos c1, c1]
    exact zr_eq (by omega) (by omega)
  · rw [if_neg c1]
    by_cases c2 : k < j
    · exact zr_lo (by omega) (by omega) (by omega)
    · rw [zr_hi (by omega) (by omega) (by omega)]
theorem zer_b {S : Int → Int} {k c : Int} (F : WfF S) (f1 : S 0 = 1) (k0 : 0 ≤ k) (k1 : k < S 2) (c0 : 0 ≤ c) (c1 : c < cod S) : 0 ≤ zer S k c ∧ zer S k c ≤ c ∧ (dgt S c k ≠ 0 → zer S k c < c) ∧ (dgt S c k = 0 → zer S k c = c) ∧ 0 ≤ dgt S c k ∧ dgt S c k < S 1 := by
  have fw := frw F f1
  obtain ⟨b1, b2, b3, b4, b5, b6⟩ := pln_b (k := S 2 - 1 - k) F f1 c0 c1 (by omega) (by omega)
  unfold pln at b5
  unfold zer dgt
  refine ⟨b5.1, b5.2, fun z => ?_, fun z => ?_, b3.1, b3.2⟩
  · have : 1 * 1 ≤ c / pw (S 1) (S 2 - 1 - k) % S 1 * pw (S 1) (S 2 - 1 - k) := Int.mul_le_mul (by omega) b1.1 (by omega) (by omega)
    omega
  · rw [z]
    omega
theorem dig_eq {S : Int → Int} {a b : Int} (F : WfF S) (f1 : S 0 = 1) (a0 : 0 ≤ a) (a1 : a < cod S) (b0 : 0 ≤ b) (b1 : b < cod S) (d : ∀ k, 0 ≤ k → k < S 2 → dgt S a k = dgt S b k) : a = b := by
  have fw := frw F f1
  have hc : cod S = pw (S 1) (S 2) := by
    unfold cod
    rw [if_pos f1]
  refine dg_all (r := S 1) (by omega) (S 2).toNat ?_ (fun j j0 j1 => ?_)
  · rw [show (((S 2).toNat : Nat) : Int) = S 2 by omega, Int.ediv_eq_zero_of_lt a0 (by omega), Int.ediv_eq_zero_of_lt b0 (by omega)]
  · have := d (S 2 - 1 - j) (by omega) (by omega)
    unfold dgt at this
    rw [show S 2 - 1 - (S 2 - 1 - j) = j by omega] at this
    exact this
theorem mea_iff {S : Int → Int} {x c : Int} (F : WfF S) : mea S x c = true ↔ ∀ j, 0 ≤ j → j < S 2 → mrk S x j = 9 ∨ mrk S x j = dgt S c j := by
  have fb := F.b
  unfold mea
  rw [meF_iff]
  constructor
  · intro h j j0 j1
    exact h j j0 (by omega)
  · intro h j j0 j1
    exact h j j0 (by omega)
theorem zer_m {S : Int → Int} {x k c : Int} (F : WfF S) (f1 : S 0 = 1) (k0 : 0 ≤ k) (k1 : k < S 2) (m : mea S x c = true) (mk : mrk S x k = 9) : mea S x (zer S k c) = true := by
  rw [mea_iff F] at m ⊢
  intro j j0 j1
  by_cases c1 : j = k
  · rw [c1]
    exact Or.inl mk
  · rw [zer_d F f1 k0 k1 j0 j1, if_neg c1]
    exact m j j0 j1
/-! sets of places -/
abbrev btA (p k : Int) : Prop := m_band (m_shr p k) 1 = 1
abbrev sbA (a b : Int) : Prop := (btA a 0 → btA b 0) ∧ (btA a 1 → btA b 1) ∧ (btA a 2 → btA b 2) ∧ (btA a 3 → btA b 3)
def btp (p k : Int) : Prop := btA p k
def sb4 (a b : Int) : Prop := (btp a 0 → btp b 0) ∧ (btp a 1 → btp b 1) ∧ (btp a 2 → btp b 2) ∧ (btp a 3 → btp b 3)
def pcF : Nat → Int → Int
  | 0, _ => 0
  | m + 1, x => if x = 0 then 0 else 1 + pcF m (m_band x (m_w32 (x - 1)))
def pc (x : Int) : Int := pcF 5 x
def b4 (b0 b1 b2 b3 : Bool) : Int := (if b0 then 1 else 0) + (if b1 then 2 else 0) + (if b2 then 4 else 0) + (if b3 then 8 else 0)
theorem set_f : ∀ a b : Fin 16, (sbA (a.val : Int) (b.val : Int) → (a.val : Int) ≤ b.val ∧ ((a.val : Int) = b.val ∨ pc (a.val : Int) < pc (b.val : Int))) ∧ (m_band (a.val : Int) (m_bxor (b.val : Int) (-1)) = 0 ↔ sbA (a.val : Int) (b.val : Int)) := by decide +kernel
theorem set_i {a b : Int} (a0 : 0 ≤ a) (a1 : a < 16) (b0 : 0 ≤ b) (b1 : b < 16) : (sb4 a b → a ≤ b ∧ (a = b ∨ pc a < pc b)) ∧ (m_band a (m_bxor b (-1)) = 0 ↔ sb4 a b) := by
  have := set_f ⟨a.toNat, by omega⟩ ⟨b.toNat, by omega⟩
  rw [show (((⟨a.toNat, by omega⟩ : Fin 16).val : Nat) : Int) = a by show ((a.toNat : Nat) : Int) = a; omega, show (((⟨b.toNat, by omega⟩ : Fin 16).val : Nat) : Int) = b by show ((b.toNat : Nat) : Int) = b; omega] at this
  exact this
theorem b4_f : ∀ b0 b1 b2 b3 : Bool, (0 ≤ b4 b0 b1 b2 b3 ∧ b4 b0 b1 b2 b3 < 16) ∧ (btA (b4 b0 b1 b2 b3) 0 ↔ b0 = true) ∧ (btA (b4 b0 b1 b2 b3) 1 ↔ b1 = true) ∧ (btA (b4 b0 b1 b2 b3) 2 ↔ b2 = true) ∧ (btA (b4 b0 b1 b2 b3) 3 ↔ b3 = true) := by decide +kernel
theorem b4_g (b0 b1 b2 b3 : Bool) : (0 ≤ b4 b0 b1 b2 b3 ∧ b4 b0 b1 b2 b3 < 16) ∧ (btp (b4 b0 b1 b2 b3) 0 ↔ b0 = true) ∧ (btp (b4 b0 b1 b2 b3) 1 ↔ b1 = true) ∧ (btp (b4 b0 b1 b2 b3) 2 ↔ b2 = true) ∧ (btp (b4 b0 b1 b2 b3) 3 ↔ b3 = true) := b4_f b0 b1 b2 b3
theorem se_b4 {p : Int → Bool} {m : Nat} (hm : m ≤ 4) : seF p m 0 0 = b4 (decide (0 < m) && p 0) (decide (1 < m) && p 1) (decide (2 < m) && p 2) (decide (3 < m) && p 3) := by
  have h : m = 0 ∨ m = 1 ∨ m = 2 ∨ m = 3 ∨ m = 4 := by omega
  have e1 : (0 : Int) + 1 = 1 := rfl
  have e2 : (1 : Int) + 1 = 2 := rfl
  have e3 : (2 : Int) + 1 = 3 := rfl
  rcases h with rfl | rfl | rfl | rfl | rfl
  · simp only [seF, e1, e2, e3]
    generalize p 0 = q0
    generalize p 1 = q1
    generalize p 2 = q2
    generalize p 3 = q3
    revert q0 q1 q2 q3
    decide +kernel
  · simp only [seF, e1, e2, e3]
    generalize p 0 = q0
    generalize p 1 = q1
    generalize p 2 = q2
    generalize p 3 = q3
    revert q0 q1 q2 q3
    decide +kernel
  · simp only [seF, e1, e2, e3]
    generalize p 0 = q0
    generalize p 1 = q1
    generalize p 2 = q2
    generalize p 3 = q3
    revert q0 q1 q2 q3
    decide +kernel
  · simp only [seF, e1, e2, e3]
    generalize p 0 = q0
    generalize p 1 = q1
    generalize p 2 = q2
    generalize p 3 = q3
    revert q0 q1 q2 q3
    decide +kernel
  · simp only [seF, e1, e2, e3]
    generalize p 0 = q0
    generalize p 1 = q1
    generalize p 2 = q2
    generalize p 3 = q3
    revert q0 q1 q2 q3
    decide +kernel
theorem se_set {p : Int → Bool} {m : Nat} (hm : m ≤ 4) : (0 ≤ seF p m 0 0 ∧ seF p m 0 0 < 16) ∧ ∀ k : Int, 0 ≤ k → k < 4 → (btp (seF p m 0 0) k ↔ (k < m ∧ p k = true)) := by
  have f := b4_g (decide (0 < m) && p 0) (decide (1 < m) && p 1) (decide (2 < m) && p 2) (decide (3 < m) && p 3)
  rw [se_b4 hm]
  refine ⟨f.1, fun k k0 k1 => ?_⟩
  have hk : k = 0 ∨ k = 1 ∨ k = 2 ∨ k = 3 := by omega
  rcases hk with rfl | rfl | rfl | rfl
  · rw [f.2.1, Bool.and_eq_true, decide_eq_true_iff]
    constructor
    · exact fun z => ⟨by omega, z.2⟩
    · exact fun z => ⟨by omega, z.2⟩
  · rw [f.2.2.1, Bool.and_eq_true, decide_eq_true_iff]
    constructor
    · exact fun z => ⟨by omega, z.2⟩
    · exact fun z => ⟨by omega, z.2⟩
  · rw [f.2.2.2.1, Bool.and_eq_true, decide_eq_true_iff]
    constructor
    · exact fun z => ⟨by omega, z.2⟩
    · exact fun z => ⟨by omega, z.2⟩
  · rw [f.2.2.2.2, Bool.and_eq_true, decide_eq_true_iff]
    constructor
    · exact fun z => ⟨by omega, z.2⟩
    · exact fun z => ⟨by omega, z.2⟩
theorem bits_s {K : Int → MH → Option (Int × MH)} {f : Nat} {n x : Int} {h : MH} (z : x ≠ 0) : GX12_bits_L4 K (f + 1) n x h = GX12_bits_L4 K f (m_w32 (n + 1)) (m_band x (m_w32 (x - 1))) h := by
  conv => lhs; unfold GX12_bits_L4
  rw [if_neg z]
theorem bits_0 {K : Int → MH → Option (Int × MH)} {f : Nat} {n : Int} {h : MH} : GX12_bits_L4 K (f + 1) n 0 h = K n h := by
  conv => lhs; unfold GX12_bits_L4
  rw [if_pos rfl]
theorem bitsM_L {K : Int → MH → Option (Int × MH)} {h : MH} : ∀ (m f : Nat) (n x : Int), m < f → 0 ≤ n → n + m ≤ 100 → pcF (m + 1) x = pcF m x → GX12_bits_L4 K f n x h = K (n + pcF m x) h ∨ ∃ y, pcF m x = m ∧ y ≠ 0 ∧ GX12_bits_L4 K f n x h = GX12_bits_L4 K (f - m) (n + m) y h := by
  intro m
  induction m with
  | zero =>
    intro f n x hf n0 n1 hp
    obtain ⟨q, rfl⟩ : ∃ q, f = q + 1 := ⟨f - 1, by omega⟩
    by_cases c : x = 0
    · left
      rw [c, bits_0]
      show K n h = K (n + 0) h
      rw [Int.add_zero]
    · right
      exact ⟨x, rfl, c, by rw [Nat.sub_zero, show n + ((0 : Nat) : Int) = n by omega]⟩
  | succ m ih =>
    intro f n x hf n0 n1 hp
    obtain ⟨q, rfl⟩ : ∃ q, f = q + 1 := ⟨f - 1, by omega⟩
    by_cases c : x = 0
    · left
      rw [c, bits_0, show pcF (m + 1) 0 = 0 from if_pos rfl, Int.add_zero]
    · have e1 : pcF (m + 1) x = 1 + pcF m (m_band x (m_w32 (x - 1))) := if_neg c
      have e2 : pcF (m + 1 + 1) x = 1 + pcF (m + 1) (m_band x (m_w32 (x - 1))) := if_neg c
      rw [bits_s c, w32_id (x := n + 1) (by omega) (by omega), e1]
      rcases ih q (n + 1) (m_band x (m_w32 (x - 1))) (by omega) (by omega) (by omega) (by omega) with z | ⟨y, z1, z2, z3⟩
      · left
        rw [z, Int.add_assoc]
      · right
        refine ⟨y, by omega, z2, ?_⟩
        rw [z3, show q + 1 - (m + 1) = q - m by omega, show n + 1 + (m : Int) = n + ((m + 1 : Nat) : Int) by omega]
theorem pc_f : ∀ a : Fin 16, pcF 6 (a.val : Int) = pcF 5 (a.val : Int) ∧ pcF 5 (a.val : Int) ≠ 5 ∧ GJ6_bitCount_0f7a4 = GJ6_bitCount_0f7a4 := by
  intro a
  refine ⟨?_, ?_, rfl⟩
  · revert a
    decide +kernel
  · revert a
    decide +kernel
theorem bits_ok {x : Int} {h : MH} (x0 : 0 ≤ x) (x1 : x < 16) : GX12_bits x h = some (pc x, h) := by
  have f := pc_f ⟨x.toNat, by omega⟩
  rw [show (((⟨x.toNat, by omega⟩ : Fin 16).val : Nat) : Int) = x by show ((x.toNat : Nat) : Int) = x; omega] at f
  unfold GX12_bits pc
  rcases bitsM_L (K := fun w1 h2 => some (w1, h2)) (h := h) 5 FU 0 x (by unfold FU; omega) (by omega) (by omega) f.1 with z | ⟨y, z1, _⟩
  · rw [z, Int.zero_add]
  · exact absurd z1 f.2.1
def bcv (a1 : Int) : Int := (m_band (m_w32 ((m_w32 ((m_band (m_w32 ((m_w32 ((m_band (m_w32 (a1 - (m_band (m_ushr a1 1) 1431655765))) 858993459) + (m_band (m_ushr (m_w32 (a1 - (m_band (m_ushr a1 1) 1431655765))) 2) 858993459))) + (m_ushr (m_w32 ((m_band (m_w32 (a1 - (m_band (m_ushr a1 1) 1431655765))) 858993459) + (m_band (m_ushr (m_w32 (a1 - (m_band (m_ushr a1 1) 1431655765))) 2) 858993459))) 4))) 252645135) + (m_ushr (m_band (m_w32 ((m_w32 ((m_band (m_w32 (a1 - (m_band (m_ushr a1 1) 1431655765))) 858993459) + (m_band (m_ushr (m_w32 (a1 - (m_band (m_ushr a1 1) 1431655765))) 2) 858993459))) + (m_ushr (m_w32 ((m_band (m_w32 (a1 - (m_band (m_ushr a1 1) 1431655765))) 858993459) + (m_band (m_ushr (m_w32 (a1 - (m_band (m_ushr a1 1) 1431655765))) 2) 858993459))) 4))) 252645135) 8))) + (m_ushr (m_w32 ((m_band (m_w32 ((m_w32 ((m_band (m_w32 (a1 - (m_band (m_ushr a1 1) 1431655765))) 858993459) + (m_band (m_ushr (m_w32 (a1 - (m_band (m_ushr a1 1) 1431655765))) 2) 858993459))) + (m_ushr (m_w32 ((m_band (m_w32 (a1 - (m_band (m_ushr a1 1) 1431655765))) 858993459) + (m_band (m_ushr (m_w32 (a1 - (m_band (m_ushr a1 1) 1431655765))) 2) 858993459))) 4))) 252645135) + (m_ushr (m_band (m_w32 ((m_w32 ((m_band (m_w32 (a1 - (m_band (m_ushr a1 1) 1431655765))) 858993459) + (m_band (m_ushr (m_w32 (a1 - (m_band (m_ushr a1 1) 1431655765))) 2) 858993459))) + (m_ushr (m_w32 ((m_band (m_w32 (a1 - (m_band (m_ushr a1 1) 1431655765))) 858993459) + (m_band (m_ushr (m_w32 (a1 - (m_band (m_ushr a1 1) 1431655765))) 2) 858993459))) 4))) 252645135) 8))) 16))) 63)
theorem bc_f : ∀ a : Fin 16, bcv (a.val : Int) = pc (a.val : Int) := by decide +kernel
theorem bitCount_ok {x : Int} {h : MH} (x0 : 0 ≤ x) (x1 : x < 16) : GJ6_bitCount_0f7a4 x h = some (pc x, h) := by
  have f := bc_f ⟨x.toNat, by omega⟩
  rw [show (((⟨x.toNat, by omega⟩ : Fin 16).val : Nat) : Int) = x by show ((x.toNat : Nat) : Int) = x; omega] at f
  rw [← f]
  rfl
/-! what decides -/
def decP (S : Int → Int) (x k : Int) : Prop := ∃ c, 0 ≤ c ∧ c < cod S ∧ mea S x c = true ∧ hol S c ≠ hol S (zer S k c)
def enP (S : Int → Int) (x P : Int) : Prop := ∀ a b, 0 ≤ b → b < a → a < cod S → mea S x a = true → mea S x b = true → (∀ k, 0 ≤ k → k < S 2 → btp P k → dgt S a k = dgt S b k) → hol S a = hol S b
noncomputable def zA (S : Int → Int) (x P : Int) : Nat → Int → Int
  | 0, c => c
  | m + 1, c => if dec (mrk S x (m : Int) = 9 ∧ ¬ btp P (m : Int)) = true then zer S (m : Int) (zA S x P m c) else zA S x P m c
theorem zA_ok {S : Int → Int} {x P : Int} (F : WfF S) (f1 : S 0 = 1) (no : ∀ k, 0 ≤ k → k < S 2 → mrk S x k = 9 → ¬ btp P k → ¬ decP S x k) {c : Int} (c0 : 0 ≤ c) (c1 : c < cod S) (m : mea S x c = true) : ∀ n : Nat, (n : Int) ≤ S 2 → (0 ≤ zA S x P n c ∧ zA S x P n c < cod S) ∧ mea S x (zA S x P n c) = true ∧ hol S (zA S x P n c) = hol S c ∧ ∀ j, 0 ≤ j → j < S 2 → ((j < n ∧ mrk S x j = 9 ∧ ¬ btp P j) → dgt S (zA S x P n c) j = 0) ∧ (¬ (j < n ∧ mrk S x j = 9 ∧ ¬ btp P j) → dgt S (zA S x P n c) j = dgt S c j) := by
  intro n
  induction n with
  | zero =>
    intro _
    exact ⟨⟨c0, c1⟩, m, rfl, fun j j0 j1 => ⟨fun z => by omega, fun _ => rfl⟩⟩
  | succ n ih =>
    intro hn
    obtain ⟨⟨a1, a2⟩, a3, a4, a5⟩ := ih (by omega)
    by_cases q : mrk S x (n : Int) = 9 ∧ ¬ btp P (n : Int)
    · rw [show zA S x P (n + 1) c = zer S (n : Int) (zA S x P n c) from if_pos (dec_t q)]
      have zb := zer_b (k := (n : Int)) F f1 (by omega) (by omega) a1 a2
      refine ⟨⟨zb.1, by omega⟩, zer_m F f1 (by omega) (by omega) a3 q.1, ?_, fun j j0 j1 => ?_⟩
      · rw [← a4]
        have nd := no n (by omega) (by omega) q.1 q.2
        by_cases e : hol S (zA S x P n c) = hol S (zer S (n : Int) (zA S x P n c))
        · exact e.symm
        · exact absurd ⟨_, a1, a2, a3, e⟩ nd
      · rw [zer_d F f1 (by omega) (by omega) j0 j1]
        by_cases cj : j = (n : Int)
        · rw [if_pos cj]
          refine ⟨fun _ => rfl, fun z => ?_⟩
          rw [cj] at z
          exact absurd ⟨by omega, q⟩ z
        · rw [if_neg cj]
          refine ⟨fun z => (a5 j j0 j1).1 ⟨by omega, z.2⟩, fun z => (a5 j j0 j1).2 (fun y => z ⟨by omega, y.2⟩)⟩
    · rw [show zA S x P (n + 1) c = zA S x P n c from if_neg (by rw [dec_f q]; decide)]
      refine ⟨⟨a1, a2⟩, a3, a4, fun j j0 j1 => ⟨fun z => ?_, fun z => ?_⟩⟩
      · by_cases cj : j = (n : Int)
        · rw [cj] at z
          exact absurd z.2 q
        · exact (a5 j j0 j1).1 ⟨by omega, z.2⟩
      · exact (a5 j j0 j1).2 (fun y => z ⟨by omega, y.2⟩)
theorem en_iff {S : Int → Int} {x P : Int} (F : WfF S) (f1 : S 0 = 1) : enP S x P ↔ ∀ k, 0 ≤ k → k < S 2 → mrk S x k = 9 → decP S x k → btp P k := by
  have fw := frw F f1
  constructor
  · intro en k k0 k1 mk ⟨c, c0, c1, m, ne⟩
    by_cases b : btp P k
    · exact b
    · exfalso
      have zb := zer_b (k := k) F f1 k0 k1 c0 c1
      by_cases d : dgt S c k = 0
      · rw [zb.2.2.2.1 d] at ne
        exact ne rfl
      · refine ne (en c (zer S k c) zb.1 (zb.2.2.1 d) c1 m (zer_m F f1 k0 k1 m mk) (fun j j0 j1 bj => ?_))
        rw [zer_d F f1 k0 k1 j0 j1, if_neg (fun z => by rw [z] at bj; exact b bj)]
  · intro h a b b0 b1 a1 ma mb like
    have no : ∀ k, 0 ≤ k → k < S 2 → mrk S x k = 9 → ¬ btp P k → ¬ decP S x k := fun k k0 k1 mk nb d => nb (h k k0 k1 mk d)
    obtain ⟨p1, p2, p3, p4⟩ := zA_ok F f1 no (show 0 ≤ a by omega) a1 ma (S 2).toNat (by omega)
    obtain ⟨q1, q2, q3, q4⟩ := zA_ok F f1 no b0 (show b < cod S by omega) mb (S 2).toNat (by omega)
    rw [← p3, ← q3]
    congr 1
    refine dig_eq F f1 p1.1 p1.2 q1.1 q1.2 (fun k k0 k1 => ?_)
    by_cases z : mrk S x k = 9 ∧ ¬ btp P k
    · rw [(p4 k k0 k1).1 ⟨by omega, z⟩, (q4 k k0 k1).1 ⟨by omega, z⟩]
    · rw [(p4 k k0 k1).2 (fun y => z y.2), (q4 k k0 k1).2 (fun y => z y.2)]
      by_cases b9 : btp P k
      · exact like k k0 k1 b9
      · have m9 : mrk S x k ≠ 9 := fun y => z ⟨y, b9⟩
        have e1 := ((mea_iff F).1 ma k k0 k1).resolve_left m9
        have e2 := ((mea_iff F).1 mb k k0 k1).resolve_left m9
        rw [← e1, ← e2]
/-! the class -/
theorem dcC_L {g : MH} {S : Int → Int} {x k : Int} (D : Dr g S) (f1 : S 0 = 1) (k0 : 0 ≤ k) (k1 : k < S 2) (mk : ∀ k, 0 ≤ k → k < S 2 → m_rd g 307 k = mrk S x k) : ∀ (m f : Nat) (v : Int), m < f → v + m = cod S → 0 ≤ v → ∃ y, GX1_decides_L13 k (pw (S 1) (S 2 - 1 - k)) (fun h3 => some (1, h3)) (fun h4 => some (0, h4)) f v g = some (y, g) ∧ (y = 0 ∨ y = 1) ∧ (y = 1 ↔ ∃ c, v ≤ c ∧ c < cod S ∧ mea S x c = true ∧ hol S c ≠ hol S (zer S k c)) := by
  have cb := cod_b D.1
  have fw := frw D.1 f1
  intro m
  induction m with
  | zero =>
    intro f v hf hv v0
    obtain ⟨q, rfl⟩ : ∃ q, f = q + 1 := ⟨f - 1, by omega⟩
    conv => enter [1, y, 1, 1]; unfold GX1_decides_L13
    rw [D.2.2.1.1, gd_cons D.2.2.1.2.2.1, gd_nil, D.2.2.2.1.2.2.2.1, if_neg (by omega)]
    exact ⟨0, rfl, Or.inl rfl, fun z => absurd z (by decide), fun ⟨c, z1, z2, _⟩ => by omega⟩
  | succ m ih =>
    intro f v hf hv v0
    obtain ⟨q, rfl⟩ : ∃ q, f = q + 1 := ⟨f - 1, by omega⟩
    obtain ⟨y, e, y01, yi⟩ := ih q (v + 1) (by omega) (by omega) (by omega)
    have zb := zer_b (k := k) D.1 f1 k0 k1 v0 (show v < cod S by omega)
    have pb := (pln_b (k := S 2 - 1 - k) D.1 f1 v0 (show v < cod S by omega) (by omega) (by omega)).2.2.2.1
    conv => enter [1, y, 1, 1]; unfold GX1_decides_L13
    rw [D.2.2.1.1, gd_cons D.2.2.1.2.2.1, gd_nil, D.2.2.2.1.2.2.2.1, if_pos (by omega), gd_cons D.2.2.1.2.2.1, gd_nil, digitOf_C D.2.2.2.1 D.1 f1 v0 (by omega) k0 k1, bd_some, isMeant_ok D f1 v0 (by omega) mk, bd_some, D.hf v0 (by omega), bd_some, w32_id (x := v / pw (S 1) (S 2 - 1 - k) % S 1 * pw (S 1) (S 2 - 1 - k)) (by omega) (by omega), w32_id (x := v - v / pw (S 1) (S 2 - 1 - k) % S 1 * pw (S 1) (S 2 - 1 - k)) (by omega) (by omega), w32_id (x := v + 1) (by omega) (by omega), e]
    have hz : GX1_holeFor (v - v / pw (S 1) (S 2 - 1 - k) % S 1 * pw (S 1) (S 2 - 1 - k)) g = some (hol S (zer S k v), g) := D.hf (c := zer S k v) zb.1 (by omega)
    rw [hz, bd_some]
    have skip : ¬ (mea S x v = true ∧ hol S v ≠ hol S (zer S k v)) → (y = 1 ↔ ∃ c, v ≤ c ∧ c < cod S ∧ mea S x c = true ∧ hol S c ≠ hol S (zer S k c)) := by
      intro nn
      rw [yi]
      constructor
      · exact fun ⟨c, z1, z2, z3⟩ => ⟨c, by omega, z2, z3⟩
      · intro ⟨c, z1, z2, z3⟩
        by_cases cv : c = v
        · rw [cv] at z3
          exact absurd z3 nn
        · exact ⟨c, by omega, z2, z3⟩
    by_cases c1 : mea S x v = true
    · rw [if_neg (by rw [t01]; exact fun z => z c1)]
      by_cases c2 : hol S v = hol S (zer S k v)
      · rw [if_pos c2]
        exact ⟨y, e, y01, skip (fun z => z.2 c2)⟩
      · rw [if_neg c2]
        exact ⟨1, rfl, Or.inr rfl, fun _ => ⟨v, by omega, by omega, c1, c2⟩, fun _ => rfl⟩
    · rw [if_pos (by rw [t01]; exact c1)]
      exact ⟨y, rfl, y01, skip (fun z => c1 z.1)⟩
theorem decides_ok {g : MH} {S : Int → Int} {x k : Int} (D : Dr g S) (f1 : S 0 = 1) (k0 : 0 ≤ k) (k1 : k < S 2) (mk : ∀ k, 0 ≤ k → k < S 2 → m_rd g 307 k = mrk S x k) : ∃ y, GX1_decides k g = some (y, g) ∧ (y = 0 ∨ y = 1) ∧ (y = 1 ↔ decP S x k) := by
  have cb := cod_b D.1
  have fw := frw D.1 f1
  obtain ⟨y, e, y01, yi⟩ := dcC_L (x := x) D f1 k0 k1 mk (cod S).toNat FU 0 (by unfold FU; omega) (by omega) (by omega)
  unfold GX1_decides
  rw [D.2.2.1.1, gd_cons D.2.2.1.2.2.1, gd_nil, w32_id (x := k + 1) (by omega) (by omega), spanOf_ok D.2.2.2.1 f1 (by omega) (by omega) (by omega), bd_some, show S 2 - (k + 1) = S 2 - 1 - k by omega]
  exact ⟨y, e, y01, yi⟩
noncomputable def rdP (S : Int → Int) (x : Int) : Int → Bool := fun k => dec (mrk S x k = 9 ∧ decP S x k)
noncomputable def smP (S : Int → Int) (x : Int) : Int → Bool := fun k => dec (mrk S x k = 9)
theorem seF_t {p : Int → Bool} {m : Nat} {v b : Int} (h : p v = true) : seF p (m + 1) v b = seF p m (v + 1) (m_bor b (m_shl 1 v)) := by
  show seF p m (v + 1) (if p v = true then _ else _) = _
  rw [if_pos h]
theorem seF_f {p : Int → Bool} {m : Nat} {v b : Int} (h : p v = false) : seF p (m + 1) v b = seF p m (v + 1) b := by
  show seF p m (v + 1) (if p v = true then _ else _) = _
  rw [if_neg (by rw [h]; decide)]
theorem strC_L {g : MH} {S : Int → Int} {x : Int} (D : Dr g S) (f1 : S 0 = 1) (mk : ∀ k, 0 ≤ k → k < S 2 → m_rd g 307 k = mrk S x k) : ∀ (m f : Nat) (v b : Int), m < f → v + m = S 2 → 0 ≤ v → GX1_setToRead_L4 (fun w1 h2 => some (w1, h2)) f b v g = some (seF (rdP S x) m v b, g) := by
  have fw := frw D.1 f1
  intro m
  induction m with
  | zero =>
    intro f v b hf hv v0
    obtain ⟨q, rfl⟩ : ∃ q, f = q + 1 := ⟨f - 1, by omega⟩
    conv => lhs; unfold GX1_setToRead_L4
    rw [D.2.2.1.1, gd_cons D.2.2.1.2.2.1, gd_nil, D.2.2.2.1.2.1, if_neg (by omega)]
    rfl
  | succ m ih =>
    intro f v b hf hv v0
    obtain ⟨q, rfl⟩ : ∃ q, f = q + 1 := ⟨f - 1, by omega⟩
    obtain ⟨y, e, y01, yi⟩ := decides_ok (x := x) D f1 v0 (show v < S 2 by omega) mk
    conv => lhs; unfold GX1_setToRead_L4
    rw [D.2.2.1.1, gd_cons D.2.2.1.2.2.1, gd_nil, D.2.2.2.1.2.1, if_pos (by omega), gd_ib v0 (by omega), gd_nil, mk v v0 (by omega), e, bd_some, w32_id (x := v + 1) (by omega) (by omega)]
    by_cases c : mrk S x v = 9
    · rw [if_pos c]
      by_cases c2 : y = 0
      · rw [if_pos c2, seF_f (show rdP S x v = false from dec_f (fun z => by have := yi.2 z.2; omega))]
        exact ih q (v + 1) b (by omega) (by omega) (by omega)
      · rw [if_neg c2, seF_t (show rdP S x v = true from dec_t ⟨c, yi.1 (by omega)⟩)]
        exact ih q (v + 1) _ (by omega) (by omega) (by omega)
    · rw [if_neg c, seF_f (show rdP S x v = false from dec_f (fun z => c z.1))]
      exact ih q (v + 1) b (by omega) (by omega) (by omega)
theorem setToRead_ok {g : MH} {S : Int → Int} {x : Int} (D : Dr g S) (f1 : S 0 = 1) (mk : ∀ k, 0 ≤ k → k < S 2 → m_rd g 307 k = mrk S x k) : GX1_setToRead g = some (seF (rdP S x) (S 2).toNat 0 0, g) := by
  have fw := frw D.1 f1
  unfold GX1_setToRead
  exact strC_L D f1 mk (S 2).toNat FU 0 0 (by unfold FU; omega) (by omega) (by omega)
/-! the reference -/
theorem smM_L {g : MH} {S : Int → Int} {x u : Int} {K : Int → MH → Option (Int × MH)} (sg : m_rd g 344 = S) (F : WfF S) (mk : ∀ k, 0 ≤ k → k < S 2 → m_rd g 346 k = mrk S x k) : ∀ (m f : Nat) (v b : Int), m < f → v + m = S 2 → 0 ≤ v → -2147483648 ≤ b → b ≤ 2147483647 → GX12_read_L25 u K f b v g = K (seF (smP S x) m v b) g := by
  have fb := F.b
  intro m
  induction m with
  | zero =>
    intro f v b hf hv v0 b0 b1
    obtain ⟨q, rfl⟩ : ∃ q, f = q + 1 := ⟨f - 1, by omega⟩
    conv => lhs; unfold GX12_read_L25
    rw [sg, if_neg (by omega)]
    rfl
  | succ m ih =>
    intro f v b hf hv v0 b0 b1
    obtain ⟨q, rfl⟩ : ∃ q, f = q + 1 := ⟨f - 1, by omega⟩
    conv => lhs; unfold GX12_read_L25
    rw [sg, if_pos (by omega), gd_ib v0 (by omega), gd_nil, mk v v0 (by omega), bor_0 b0 b1, w32_id (x := v + 1) (by omega) (by omega)]
    by_cases c : mrk S x v = 9
    · rw [if_pos c, seF_t (show smP S x v = true from dec_t c)]
      exact ih q (v + 1) _ (by omega) (by omega) (by omega) bor_r.1 bor_r.2
    · rw [if_neg c, seF_f (show smP S x v = false from dec_f c)]
      exact ih q (v + 1) b (by omega) (by omega) (by omega) b0 b1
theorem fgM_L {S : Int → Int} {K : MH → Option MH} (F0 : WfF S) (E0 : WfE S) : ∀ (m f : Nat) (v : Int) (h : MH), m < f → v + m = cod S → 0 ≤ v → m_rd h 344 = S → (∀ c, 0 ≤ c → c < v → m_rd h 347 c = hol S c) → ∃ h', GX12_fillsGoes_L2 K f v h = K h' ∧ Fr (fun a _ => a = 347) h h' ∧ ∀ c, 0 ≤ c → c < cod S → m_rd h' 347 c = hol S c := by
  have cb := cod_b F0
  intro m
  induction m with
  | zero =>
    intro f v h hf hv v0 sg done
    obtain ⟨q, rfl⟩ : ∃ q, f = q + 1 := ⟨f - 1, by omega⟩
    conv => enter [1, h', 1, 1]; unfold GX12_fillsGoes_L2
    rw [codesMany_ok (by rw [sg]; exact F0), bd_some, sg, if_neg (by omega)]
    exact ⟨h, rfl, Fr.rf, fun c c0 c1 => done c c0 (by omega)⟩
  | succ m ih =>
    intro f v h hf hv v0 sg done
    obtain ⟨q, rfl⟩ : ∃ q, f = q + 1 := ⟨f - 1, by omega⟩
    conv => enter [1, h', 1, 1]; unfold GX12_fillsGoes_L2
    rw [codesMany_ok (by rw [sg]; exact F0), bd_some, sg, if_pos (by omega), holeOf_ok (by rw [sg]; exact F0) (by rw [sg]; exact E0) v0 (by omega), bd_some, sg, gd_ib v0 (by omega), gd_nil, w32_id (x := v + 1) (by omega) (by omega)]
    obtain ⟨h', e', F', d'⟩ := ih q (v + 1) (m_wr h 347 v (hol S v)) (by omega) (by omega) (by omega) (by rw [rd_fo (by decide)]; exact sg) (fun c c0 c1 => by
      by_cases cc : c = v
      · rw [rd_eq rfl cc, cc]
      · rw [rd_ne (Or.inr cc)]
        exact done c c0 (by omega))
    exact ⟨h', e', Fr.tr (Fr.wr Fr.rf rfl) F', d'⟩
theorem alkM_L {g : MH} {S : Int → Int} {a b P : Int} (sg : m_rd g 344 = S) (F : WfF S) (f1 : S 0 = 1) (a0 : 0 ≤ a) (a1 : a < cod S) (b0 : 0 ≤ b) (b1 : b < cod S) : ∀ (m f : Nat) (v : Int), m < f → v + m = S 2 → 0 ≤ v → ∃ y, GX12_areLike_L3 a b P (fun h1 => some (0, h1)) (fun h2 => some (1, h2)) f v g = some (y, g) ∧ (y = 0 ∨ y = 1) ∧ (y = 1 ↔ ∀ k, v ≤ k → k < S 2 → btp P k → dgt S a k = dgt S b k) := by
  have fw := frw F f1
  intro m
  induction m with
  | zero =>
    intro f v hf hv v0
    obtain ⟨q, rfl⟩ : ∃ q, f = q + 1 := ⟨f - 1, by omega⟩
    conv => enter [1, y, 1, 1]; unfold GX12_areLike_L3
    rw [sg, if_neg (by omega)]
    exact ⟨1, rfl, Or.inr rfl, fun _ k k0 k1 => by omega, fun _ => rfl⟩
  | succ m ih =>
    intro f v hf hv v0
    obtain ⟨q, rfl⟩ : ∃ q, f = q + 1 := ⟨f - 1, by omega⟩
    obtain ⟨y, e, y01, yi⟩ := ih q (v + 1) (by omega) (by omega) (by omega)
    have io : GX12_isOf P v g = some (if btA P v then 1 else 0, g) := by
      unfold GX12_isOf
      by_cases c : btA P v
      · rw [if_pos c, if_pos c]
      · rw [if_neg c, if_neg c]
    conv => enter [1, y, 1, 1]; unfold GX12_areLike_L3
    rw [sg, if_pos (by omega), io, bd_some, digitOf_M sg F f1 a0 a1 v0 (by omega), bd_some, digitOf_M sg F f1 b0 b1 v0 (by omega), bd_some, w32_id (x := v + 1) (by omega) (by omega), e]
    have skip : (btp P v → dgt S a v = dgt S b v) → (y = 1 ↔ ∀ k, v ≤ k → k < S 2 → btp P k → dgt S a k = dgt S b k) := by
      intro nn
      rw [yi]
      constructor
      · intro h k k0 k1
        by_cases c : k = v
        · rw [c]
          exact nn
        · exact h k (by omega) k1
      · intro h k k0 k1
        exact h k (by omega) k1
    by_cases c : btA P v
    · rw [if_neg (by rw [t01]; exact fun z => z c)]
      by_cases c2 : dgt S a v = dgt S b v
      · rw [if_pos c2]
        exact ⟨y, rfl, y01, skip (fun _ => c2)⟩
      · rw [if_neg c2]
        exact ⟨0, rfl, Or.inl rfl, fun z => absurd z (by decide), fun z => absurd (z v (by omega) (by omega) c) c2⟩
    · rw [if_pos (by rw [t01]; exact c)]
      exact ⟨y, rfl, y01, skip (fun z => absurd z c)⟩
theorem areLike_ok {g : MH} {S : Int → Int} {a b P : Int} (sg : m_rd g 344 = S) (F : WfF S) (f1 : S 0 = 1) (a0 : 0 ≤ a) (a1 : a < cod S) (b0 : 0 ≤ b) (b1 : b < cod S) : ∃ y, GX12_areLike a b P g = some (y, g) ∧ (y = 0 ∨ y = 1) ∧ (y = 1 ↔ ∀ k, 0 ≤ k → k < S 2 → btp P k → dgt S a k = dgt S b k) := by
  have fw := frw F f1
  unfold GX12_areLike
  exact alkM_L sg F f1 a0 a1 b0 b1 (S 2).toNat FU 0 (by unfold FU; omega) (by omega) (by omega)
/-- for one code and all below it -/
def en1 (S : Int → Int) (x P a v : Int) : Prop := ∀ b, v ≤ b → b < a → mea S x b = true → (∀ k, 0 ≤ k → k < S 2 → btp P k → dgt S a k = dgt S b k) → hol S a = hol S b
theorem ieM23 {g : MH} {S : Int → Int} {x a P : Int} {K0 K1 : MH → Option (Int × MH)} (sg : m_rd g 344 = S) (F : WfF S) (f1 : S 0 = 1) (a0 : 0 ≤ a) (a1 : a < cod S) (mk : ∀ k, 0 ≤ k → k < S 2 → m_rd g 346 k = mrk S x k) (gs : ∀ c, 0 ≤ c → c < cod S → m_rd g 347 c = hol S c) : ∀ (m f : Nat) (v : Int), m < f → v + m = a → 0 ≤ v → (en1 S x P a v → GX12_isEnough_L23 P a K0 K1 f v g = K1 g) ∧ (¬ en1 S x P a v → GX12_isEnough_L23 P a K0 K1 f v g = K0 g) := by
  have cb := cod_b F
  intro m
  induction m with
  | zero =>
    intro f v hf hv v0
    obtain ⟨q, rfl⟩ : ∃ q, f = q + 1 := ⟨f - 1, by omega⟩
    have e : GX12_isEnough_L23 P a K0 K1 (q + 1) v g = K1 g := by
      conv => lhs; unfold GX12_isEnough_L23
      rw [if_neg (by omega)]
    exact ⟨fun _ => e, fun z => absurd (fun b z1 z2 => by omega) z⟩
  | succ m ih =>
    intro f v hf hv v0
    obtain ⟨q, rfl⟩ : ∃ q, f = q + 1 := ⟨f - 1, by omega⟩
    obtain ⟨i1, i2⟩ := ih q (v + 1) (by omega) (by omega) (by omega)
    obtain ⟨y, e, y01, yi⟩ := areLike_ok (P := P) sg F f1 a0 a1 v0 (show v < cod S by omega)
    have st : (mea S x v = true → (∀ k, 0 ≤ k → k < S 2 → btp P k → dgt S a k = dgt S v k) → hol S a = hol S v) → (en1 S x P a v ↔ en1 S x P a (v + 1)) := by
      intro ok
      constructor
      · intro h b z1 z2
        exact h b (by omega) z2
      · intro h b z1 z2
        by_cases c : b = v
        · rw [c]
          exact ok
        · exact h b (by omega) z2
    have same : (mea S x v = true → (∀ k, 0 ≤ k → k < S 2 → btp P k → dgt S a k = dgt S v k) → hol S a = hol S v) → GX12_isEnough_L23 P a K0 K1 (q + 1) v g = GX12_isEnough_L23 P a K0 K1 q (v + 1) g → (en1 S x P a v → GX12_isEnough_L23 P a K0 K1 (q + 1) v g = K1 g) ∧ (¬ en1 S x P a v → GX12_isEnough_L23 P a K0 K1 (q + 1) v g = K0 g) := by
      intro ok eq'
      rw [st ok, eq']
      exact ⟨i1, i2⟩
    have un : GX12_isEnough_L23 P a K0 K1 (q + 1) v g = (if (if mea S x v = true then (1 : Int) else 0) = 0 then GX12_isEnough_L23 P a K0 K1 q (v + 1) g else if y = 0 then GX12_isEnough_L23 P a K0 K1 q (v + 1) g else if hol S a = hol S v then GX12_isEnough_L23 P a K0 K1 q (v + 1) g else K0 g) := by
      conv => lhs; unfold GX12_isEnough_L23
      rw [if_pos (by omega), canMean_ok sg F f1 v0 (by omega) mk, bd_some, e, bd_some, gd_ib (by omega) (by omega), gd_nil, gd_ib (by omega) (by omega), gd_nil, gs a a0 a1, gs v v0 (by omega), w32_id (x := v + 1) (by omega) (by omega)]
    by_cases c1 : mea S x v = true
    · rw [if_neg (by rw [t01]; exact fun z => z c1)] at un
      by_cases c2 : y = 0
      · rw [if_pos c2] at un
        exact same (fun _ z => by have := yi.2 z; omega) un
      · rw [if_neg c2] at un
        by_cases c3 : hol S a = hol S v
        · rw [if_pos c3] at un
          exact same (fun _ _ => c3) un
        · rw [if_neg c3] at un
          refine ⟨fun z => ?_, fun _ => un⟩
          exact absurd (z v (by omega) (by omega) c1 (yi.1 (by omega))) c3
    · rw [if_pos (by rw [t01]; exact c1)] at un
      exact same (fun z => absurd z c1) un
theorem ieM2 {g : MH} {S : Int → Int} {x P : Int} (sg : m_rd g 344 = S) (F : WfF S) (f1 : S 0 = 1) (mk : ∀ k, 0 ≤ k → k < S 2 → m_rd g 346 k = mrk S x k) (gs : ∀ c, 0 ≤ c → c < cod S → m_rd g 347 c = hol S c) : ∀ (m f : Nat) (v : Int), m < f → v + m = cod S → 0 ≤ v → ∃ y, GX12_isEnough_L2 P (fun h1 => some (0, h1)) (fun h2 => some (1, h2)) f v g = some (y, g) ∧ (y = 0 ∨ y = 1) ∧ (y = 1 ↔ ∀ a, v ≤ a → a < cod S → mea S x a = true → en1 S x P a 0) := by
  have cb := cod_b F
  intro m
  induction m with
  | zero =>
    intro f v hf hv v0
    obtain ⟨q, rfl⟩ : ∃ q, f = q + 1 := ⟨f - 1, by omega⟩
    conv => enter [1, y, 1, 1]; unfold GX12_isEnough_L2
    rw [codesMany_ok (by rw [sg]; exact F), bd_some, sg, if_neg (by omega)]
    exact ⟨1, rfl, Or.inr rfl, fun _ a z1 z2 => by omega, fun _ => rfl⟩
  | succ m ih =>
    intro f v hf hv v0
    obtain ⟨q, rfl⟩ : ∃ q, f = q + 1 := ⟨f - 1, by omega⟩
    obtain ⟨y, e, y01, yi⟩ := ih q (v + 1) (by omega) (by omega) (by omega)
    have cm := canMean_ok sg F f1 v0 (show v < cod S by omega) mk
    obtain ⟨j1, j2⟩ := ieM23 (P := P) (x := x) (K0 := fun h5 => some ((0 : Int), h5)) (K1 := fun h6 => GX12_isEnough_L2 P (fun h1 => some (0, h1)) (fun h2 => some (1, h2)) q (v + 1) h6) sg F f1 v0 (show v < cod S by omega) mk gs v.toNat FU 0 (by unfold FU; omega) (by omega) (by omega)
    have st : (mea S x v = true → en1 S x P v 0) → (y = 1 ↔ ∀ a, v ≤ a → a < cod S → mea S x a = true → en1 S x P a 0) := by
      intro ok
      rw [yi]
      constructor
      · intro h a z1 z2
        by_cases c : a = v
        · rw [c]
          exact ok
        · exact h a (by omega) z2
      · intro h a z1 z2
        exact h a (by omega) z2
    conv => enter [1, y, 1, 1]; unfold GX12_isEnough_L2
    rw [codesMany_ok (by rw [sg]; exact F), bd_some, sg, if_pos (by omega), cm, bd_some, w32_id (x := v + 1) (by omega) (by omega)]
    by_cases c1 : mea S x v = true
    · rw [if_neg (by rw [t01]; exact fun z => z c1)]
      by_cases c2 : en1 S x P v 0
      · rw [j1 c2, e]
        exact ⟨y, rfl, y01, st (fun _ => c2)⟩
      · rw [j2 c2]
        exact ⟨0, rfl, Or.inl rfl, fun z => absurd z (by decide), fun z => absurd (z v (by omega) (by omega) c1) c2⟩
    · rw [if_pos (by rw [t01]; exact c1), e]
      exact ⟨y, rfl, y01, st (fun z => absurd z c1)⟩
theorem isEnough_ok {g : MH} {S : Int → Int} {x P : Int} (sg : m_rd g 344 = S) (F : WfF S) (f1 : S 0 = 1) (mk : ∀ k, 0 ≤ k → k < S 2 → m_rd g 346 k = mrk S x k) (gs : ∀ c, 0 ≤ c → c < cod S → m_rd g 347 c = hol S c) : ∃ y, GX12_isEnough P g = some (y, g) ∧ (y = 0 ∨ y = 1) ∧ (y = 1 ↔ enP S x P) := by
  have cb := cod_b F
  obtain ⟨y, e, y01, yi⟩ := ieM2 (P := P) (x := x) sg F f1 mk gs (cod S).toNat FU 0 (by unfold FU; omega) (by omega) (by omega)
  refine ⟨y, e, y01, yi.trans ⟨fun h a b b0 b1 a1 ma mb l => h a (by omega) a1 ma b b0 b1 mb l, fun h a z1 z2 ma b b0 b1 mb l => h a b b0 b1 z2 ma mb l⟩⟩
theorem rdM_L {g : MH} {S : Int → Int} {x u s D : Int} {K : Int → MH → Option (Int × MH)} (sg : m_rd g 344 = S) (F : WfF S) (f1 : S 0 = 1) (mk : ∀ k, 0 ≤ k → k < S 2 → m_rd g 346 k = mrk S x k) (gs : ∀ c, 0 ≤ c → c < cod S → m_rd g 347 c = hol S c) (s0 : 0 ≤ s) (s1 : s < 16) (D0 : 0 ≤ D) (D1 : D < 16) (Ds : sb4 D s) (De : ∀ P, enP S x P ↔ sb4 D P) : ∀ (m f : Nat) (b v : Int), m < f → v + m = s → 0 ≤ v → 0 ≤ b → b < 16 → (b = D ∨ (v ≤ D ∧ sb4 D b ∧ sb4 b s)) → GX12_read_L75 u s K f b v g = K D g := by
  intro m
  induction m with
  | zero =>
    intro f b v hf hv v0 b0 b1 I
    obtain ⟨q, rfl⟩ : ∃ q, f = q + 1 := ⟨f - 1, by omega⟩
    have bD : b = D := by
      rcases I with z | ⟨z1, z2, z3⟩
      · exact z
      · have h1 := ((set_i D0 D1 s0 s1).1 Ds).1
        have h2 := ((set_i b0 b1 s0 s1).1 z3).1
        have h3 := ((set_i D0 D1 b0 b1).1 z2).1
        omega
    conv => lhs; unfold GX12_read_L75
    rw [if_neg (by omega), bD]
  | succ m ih =>
    intro f b v hf hv v0 b0 b1 I
    obtain ⟨q, rfl⟩ : ∃ q, f = q + 1 := ⟨f - 1, by omega⟩
    obtain ⟨y, e, y01, yi⟩ := isEnough_ok (P := v) (x := x) sg F f1 mk gs
    have sv := set_i v0 (show v < 16 by omega) s0 s1
    have dv := set_i D0 D1 v0 (show v < 16 by omega)
    have db := set_i D0 D1 b0 b1
    conv => lhs; unfold GX12_read_L75
    rw [if_pos (by omega), bits_ok v0 (by omega), bd_some, bits_ok b0 b1, bd_some, e, bd_some, w32_id (x := v + 1) (by omega) (by omega)]
    -- taken only if D is within v
    have take : y = 1 → pc v < pc b → b = D → False := by
      intro y1 p bD
      have := (dv.1 ((De v).1 (yi.1 y1))).2
      rcases this with z | z
      · rw [bD, z] at p
        omega
      · rw [bD] at p
        omega
    have keep : ¬ (m_band v (m_bxor s (-1)) = 0 ∧ pc v < pc b ∧ y = 1) → GX12_read_L75 u s K q b (v + 1) g = K D g := by
      intro nn
      refine ih q b (v + 1) (by omega) (by omega) (by omega) b0 b1 ?_
      rcases I with z | ⟨z1, z2, z3⟩
      · exact Or.inl z
      · by_cases bD : b = D
        · exact Or.inl bD
        · by_cases vD : v = D
          · exfalso
            refine nn ⟨sv.2.2 (by rw [vD]; exact Ds), ?_, ?_⟩
            · have := (db.1 z2).2
              rw [vD]
              omega
            · exact yi.2 ((De v).2 (by rw [vD]; exact ⟨id, id, id, id⟩))
          · exact Or.inr ⟨by omega, z2, z3⟩
    by_cases c1 : m_band v (m_bxor s (-1)) = 0
    · rw [if_pos c1]
      by_cases c2 : pc v < pc b
      · rw [if_pos c2]
        by_cases c3 : y = 0
        · rw [if_pos c3]
          exact keep (fun z => by omega)
        · rw [if_neg c3]
          have y1 : y = 1 := by omega
          have dvl := dv.1 ((De v).1 (yi.1 y1))
          refine ih q v (v + 1) (by omega) (by omega) (by omega) v0 (by omega) ?_
          rcases I with z | ⟨z1, z2, z3⟩
          · exact (take y1 c2 z).elim
          · exact Or.inl (by omega)
      · rw [if_neg c2]
        exact keep (fun z => c2 z.2.1)
    · rw [if_neg c1]
      exact keep (fun z => c1 z.1)
theorem c_read (x u : Int) (x1 : x ≤ 2147483647) : Call (GX11_read x u) (GX12_read x u) := by
  intro h H
  have w1 := H.2.2.2.1.2.1
  unfold GX11_read
  by_cases u01 : 0 ≤ u ∧ u ≤ 1
  · refine wi_in (by omega) (wi_in (by omega) ?_)
    obtain ⟨g, e, F, D, I⟩ := drawNow_ok H
    obtain ⟨b, g1, e1, F1, b01, bi, mk⟩ := takeReading_ok D x1
    have D1 : Dr g1 (m_rd h 344) := D.cg (F1.wk (fun a j z => by omega))
    have I1 : Inv g1 := I.scr (F1.wk (fun a j z => by unfold Scr; omega))
    obtain ⟨b', g2, e2, F2, b01', bi', mk'⟩ := isReading_ok (x := x) D1.2.2.2.2.2 D1.1 x1
    have D2 : Dr g2 (m_rd h 344) := D1.cg (F2.wk (fun a j z => by omega))
    have I2 : Inv g2 := I1.scr (F2.wk (fun a j z => by unfold Scr; omega))
    refine wi_bw e (wi_be e1 ?_)
    by_cases c : okR (m_rd h 344) x
    · have hb := bi.2 c
      have hb' := bi'.2 c
      have f1 := c.1
      have fw := frw D.1 f1
      have cb := cod_b D.1
      obtain ⟨dD, dB⟩ := se_set (p := rdP (m_rd h 344) x) (m := (m_rd h 344 2).toNat) (by omega)
      obtain ⟨sD, sB⟩ := se_set (p := smP (m_rd h 344) x) (m := (m_rd h 344 2).toNat) (by omega)
      obtain ⟨DD, hDD⟩ : ∃ DD, DD = seF (rdP (m_rd h 344) x) (m_rd h 344 2).toNat 0 0 := ⟨_, rfl⟩
      obtain ⟨SS, hSS⟩ : ∃ SS, SS = seF (smP (m_rd h 344) x) (m_rd h 344 2).toNat 0 0 := ⟨_, rfl⟩
      have dec_i : ∀ P : Prop, dec P = true ↔ P := fun P => ⟨fun z => by
        by_cases q : P
        · exact q
        · rw [dec_f q] at z
          exact absurd z (by decide), fun z => dec_t z⟩
      have dB' : ∀ k, 0 ≤ k → k < 4 → (btp DD k ↔ (k < m_rd h 344 2 ∧ mrk (m_rd h 344) x k = 9 ∧ decP (m_rd h 344) x k)) := by
        intro k k0 k1
        rw [hDD, dB k k0 k1]
        unfold rdP
        rw [dec_i]
        constructor
        · exact fun z => ⟨by omega, z.2⟩
        · exact fun z => ⟨by omega, z.2⟩
      have sB' : ∀ k, 0 ≤ k → k < 4 → (btp SS k ↔ (k < m_rd h 344 2 ∧ mrk (m_rd h 344) x k = 9)) := by
        intro k k0 k1
        rw [hSS, sB k k0 k1]
        unfold smP
        rw [dec_i]
        constructor
        · exact fun z => ⟨by omega, z.2⟩
        · exact fun z => ⟨by omega, z.2⟩
      have Ds : sb4 DD SS := by
        refine ⟨fun z => ?_, fun z => ?_, fun z => ?_, fun z => ?_⟩
        · exact (sB' 0 (by omega) (by omega)).2 (by have := (dB' 0 (by omega) (by omega)).1 z; exact ⟨this.1, this.2.1⟩)
        · exact (sB' 1 (by omega) (by omega)).2 (by have := (dB' 1 (by omega) (by omega)).1 z; exact ⟨this.1, this.2.1⟩)
        · exact (sB' 2 (by omega) (by omega)).2 (by have := (dB' 2 (by omega) (by omega)).1 z; exact ⟨this.1, this.2.1⟩)
        · exact (sB' 3 (by omega) (by omega)).2 (by have := (dB' 3 (by omega) (by omega)).1 z; exact ⟨this.1, this.2.1⟩)
      have De : ∀ P, enP (m_rd h 344) x P ↔ sb4 DD P := by
        intro P
        rw [en_iff D.1 f1]
        constructor
        · intro q
          have one : ∀ k, 0 ≤ k → k < 4 → btp DD k → btp P k := fun k k0 k1 z => by
            have := (dB' k k0 k1).1 z
            exact q k k0 this.1 this.2.1 this.2.2
          exact ⟨one 0 (by omega) (by omega), one 1 (by omega) (by omega), one 2 (by omega) (by omega), one 3 (by omega) (by omega)⟩
        · intro q k k0 k1 mk9 dk
          have z := (dB' k k0 (by omega)).2 ⟨k1, mk9, dk⟩
          have hk : k = 0 ∨ k = 1 ∨ k = 2 ∨ k = 3 := by omega
          rcases hk with rfl | rfl | rfl | rfl
          · exact q.1 z
          · exact q.2.1 z
          · exact q.2.2.1 z
          · exact q.2.2.2 z
      rw [← hDD] at dD
      rw [← hSS] at sD
      have sr := setToRead_ok D1 f1 (mk hb)
      rw [← hDD] at sr
      refine wi_in (by omega) (wi_be sr ?_)
      have s2 := D2.2.2.2.2.2
      have mod : ∀ v, v = (if u = 0 then pc DD else DD) → Wi (GX12_read x u g1) (fun w h2 => v = w ∧ Inv h2) := by
        intro v hv
        unfold GX12_read
        refine wi_be e2 (wi_in (by omega) (wi_be in_ok (wi_in (by rw [t01]; exact fun z => z u01) ?_)))
        refine wi_rw (smM_L (x := x) s2 D2.1 (mk' hb') (m_rd h 344 2).toNat FU 0 0 (by unfold FU; omega) (by omega) (by omega) (by omega) (by omega)) ?_
        rw [← hSS]
        obtain ⟨g3, e3, F3, gs⟩ := fgM_L (K := fun h1 => some h1) D2.1 D2.2.1 (cod (m_rd h 344)).toNat FU 0 g2 (by unfold FU; omega) (by omega) (by omega) s2 (fun c z1 z2 => by omega)
        have s3 : m_rd g3 344 = m_rd h 344 := by
          rw [← s2]
          exact funext fun j => F3.rd (by omega)
        have I3 : Inv g3 := I2.scr (F3.wk (fun a j z => by unfold Scr; omega))
        refine wi_bw (show GX12_fillsGoes g2 = some g3 from e3) ?_
        refine wi_rw (rdM_L (x := x) (D := DD) s3 D.1 f1 (fun k k0 k1 => by rw [F3.rd (by omega)]; exact mk' hb' k k0 k1) gs sD.1 sD.2 dD.1 dD.2 Ds De SS.toNat FU SS 0 (by unfold FU; omega) (by omega) (by omega) sD.1 sD.2 ?_) ?_
        · exact Or.inr ⟨dD.1, Ds, id, id, id, id⟩
        · refine wi_it (fun z => wi_be (bits_ok dD.1 dD.2) (wi_ret ⟨?_, I3⟩)) (fun z => wi_ret ⟨?_, I3⟩)
          · rw [hv, if_pos z]
          · rw [hv, if_neg z]
      refine wi_it (fun z => wi_be (bitCount_ok dD.1 dD.2) (wi_ret (mod _ ?_))) (fun z => wi_ret (mod _ ?_))
      · rw [if_pos z]
      · rw [if_neg z]
    · have hb : b = 0 := b01.elim id (fun z => absurd (bi.1 z) c)
      have hb' : b' = 0 := b01'.elim id (fun z => absurd (bi'.1 z) c)
      refine wi_ip hb (wi_ret ?_)
      unfold GX12_read
      exact wi_be e2 (wi_ip hb' (wi_ret ⟨rfl, I2⟩))
  · have mod : Wi (GX12_read x u h) (fun w h2 => -1 = w ∧ Inv h2) := by
      obtain ⟨b', g2, e2, F2, b01', bi', mk'⟩ := isReading_ok (x := x) (g := h) rfl w1.1 x1
      have I2 : Inv g2 := H.scr (F2.wk (fun a j z => by unfold Scr; omega))
      unfold GX12_read
      refine wi_be e2 (wi_it (fun _ => wi_ret ⟨rfl, I2⟩) (fun _ => wi_be in_ok (wi_ip (by rw [t01]; exact u01) (wi_ret ⟨rfl, I2⟩))))
    by_cases c0 : u < 0
    · exact wi_ip c0 (wi_ret mod)
    · exact wi_in c0 (wi_ip (by omega) (wi_ret mod))
