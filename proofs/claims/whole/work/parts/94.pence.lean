/-! pence -/
theorem fld_app {β : Type} {g : Int → β → β} : ∀ (m n : Nat) (v : Int) (b : β), fld g (m + n) v b = fld g n (v + m) (fld g m v b) := by
  intro m
  induction m with
  | zero =>
    intro n v b
    rw [Nat.zero_add, show v + ((0 : Nat) : Int) = v by omega]
    rfl
  | succ m ih =>
    intro n v b
    rw [show m + 1 + n = (m + n) + 1 by omega]
    show fld g (m + n) (v + 1) (g v b) = fld g n (v + ((m + 1 : Nat) : Int)) (fld g m (v + 1) (g v b))
    rw [ih n (v + 1) (g v b), show v + 1 + (m : Int) = v + ((m + 1 : Nat) : Int) by omega]
theorem fld_id {β : Type} {g : Int → β → β} {P : β → Prop} {lo hi : Int} (e : ∀ v b, lo ≤ v → v < hi → P b → g v b = b) : ∀ (m : Nat) (v : Int) (b : β), lo ≤ v → v + m ≤ hi → P b → fld g m v b = b := by
  intro m
  induction m with
  | zero =>
    intro v b _ _ _
    rfl
  | succ m ih =>
    intro v b v0 v1 pb
    show fld g m (v + 1) (g v b) = b
    rw [e v b v0 (by omega) pb]
    exact ih (v + 1) b (by omega) (by omega) pb
def pcX (S : Int → Int) (much all v : Int) : Int := Int.tmod (m_w32 (much * S (20 + v))) all
def pcG (S : Int → Int) (much hole all : Int) (v : Int) (b : Int × Int) : Int × Int := (m_w32 (b.1 - m_w32 (Int.tdiv (m_w32 (much * S (20 + v))) all)), if pcX S much all hole < pcX S much all v then b.2 + 1 else if pcX S much all v = pcX S much all hole then (if v < hole then b.2 + 1 else b.2) else b.2)
theorem w32_r {x : Int} : -2147483648 ≤ m_w32 x ∧ m_w32 x ≤ 2147483647 := by
  unfold m_w32
  omega
theorem pcG_b {S : Int → Int} {much hole all v : Int} {b : Int × Int} (h : 0 ≤ b.2 ∧ b.2 ≤ v) : 0 ≤ (pcG S much hole all v b).2 ∧ (pcG S much hole all v b).2 ≤ v + 1 := by
  unfold pcG
  dsimp only
  split
  · omega
  split
  · split <;> omega
  · omega
theorem pc_C {g : MH} {S : Int → Int} {much hole all : Int} {K : Int → Int → MH → Option (Int × MH)} (R : ∀ i, 0 ≤ i → i < 6 → m_rd g 39 i = S (20 + i)) (a0 : all ≠ 0) (m f : Nat) (v : Int) (b : Int × Int) (hf : m < f) (hv : v + m = 6) (v0 : 0 ≤ v) (b0 : 0 ≤ b.2 ∧ b.2 ≤ v) : GX10_shareOf_L32 32 much hole all (pcX S much all hole) K f b.1 b.2 v g = K (fld (pcG S much hole all) m v b).1 (fld (pcG S much hole all) m v b).2 g := by
  refine (uploop (L := fun f b v => GX10_shareOf_L32 32 much hole all (pcX S much all hole) K f b.1 b.2 v g) (K := fun b => K b.1 b.2 g) (g := pcG S much hole all) (N := 6) (I := fun v b => 0 ≤ b.2 ∧ b.2 ≤ v) (fun f v b ib v0 v1 => ⟨?_, pcG_b ib⟩) (fun f b => ?_) m f v b hf hv v0 b0).1
  · show GX10_shareOf_L32 32 much hole all (pcX S much all hole) K (f + 1) b.1 b.2 v g = _
    conv => lhs; unfold GX10_shareOf_L32
    rw [if_pos v1, gd_ib v0 v1, gd_cons a0, gd_nil, gd_ib v0 v1, gd_cons a0, gd_nil, show (32 : Int) + 7 = 39 from rfl, R v v0 v1, w32_id (x := v + 1) (by omega) (by omega), w32_id (x := b.2 + 1) (by omega) (by omega)]
    show (if pcX S much all hole < pcX S much all v then _ else if pcX S much all v = pcX S much all hole then _ else _) = GX10_shareOf_L32 32 much hole all (pcX S much all hole) K f (pcG S much hole all v b).1 (pcG S much hole all v b).2 (v + 1) g
    unfold pcG
    dsimp only
    by_cases c1 : pcX S much all hole < pcX S much all v
    · rw [if_pos c1, if_pos c1]
    · rw [if_neg c1, if_neg c1]
      by_cases c2 : pcX S much all v = pcX S much all hole
      · rw [if_pos c2, if_pos c2]
        by_cases c3 : v < hole
        · rw [if_pos c3, if_pos c3]
        · rw [if_neg c3, if_neg c3]
      · rw [if_neg c2, if_neg c2]
  · show GX10_shareOf_L32 32 much hole all (pcX S much all hole) K (f + 1) b.1 b.2 6 g = _
    conv => lhs; unfold GX10_shareOf_L32
    rw [if_neg (by omega)]
theorem pc_M {g : MH} {S : Int → Int} {much hole all : Int} {K : Int → Int → MH → Option (Int × MH)} (sg : m_rd g 344 = S) (s3 : S 3 ≤ 6) (a0 : all ≠ 0) (m f : Nat) (v : Int) (b : Int × Int) (hf : m < f) (hv : v + m = S 3) (v0 : 0 ≤ v) (b0 : 0 ≤ b.2 ∧ b.2 ≤ v) : GX12_pence_L57 much hole all (m_w32 (much * S (20 + hole))) K f b.1 b.2 v g = K (fld (pcG S much hole all) m v b).1 (fld (pcG S much hole all) m v b).2 g := by
  refine (uploop (L := fun f b v => GX12_pence_L57 much hole all (m_w32 (much * S (20 + hole))) K f b.1 b.2 v g) (K := fun b => K b.1 b.2 g) (g := pcG S much hole all) (N := S 3) (I := fun v b => 0 ≤ b.2 ∧ b.2 ≤ v) (fun f v b ib v0 v1 => ⟨?_, pcG_b ib⟩) (fun f b => ?_) m f v b hf hv v0 b0).1
  · show GX12_pence_L57 much hole all (m_w32 (much * S (20 + hole))) K (f + 1) b.1 b.2 v g = _
    conv => lhs; unfold GX12_pence_L57
    rw [sg, if_pos v1, w32_id (x := 20 + v) (by omega) (by omega), gd_ib (by omega) (by omega), gd_cons a0, gd_nil, gd_cons a0, gd_nil, w32_id (x := v + 1) (by omega) (by omega), w32_id (x := b.2 + 1) (by omega) (by omega), w32_id (x := b.2 + 0) (by omega) (by omega), Int.add_zero]
    show (if pcX S much all hole < pcX S much all v then _ else if pcX S much all v = pcX S much all hole then _ else _) = GX12_pence_L57 much hole all (m_w32 (much * S (20 + hole))) K f (pcG S much hole all v b).1 (pcG S much hole all v b).2 (v + 1) g
    unfold pcG
    dsimp only
    by_cases c1 : pcX S much all hole < pcX S much all v
    · rw [if_pos c1, if_pos c1]
    · rw [if_neg c1, if_neg c1]
      by_cases c2 : pcX S much all v = pcX S much all hole
      · rw [if_pos c2, if_pos c2]
        by_cases c3 : v < hole
        · rw [if_pos c3, if_pos c3]
        · rw [if_neg c3, if_neg c3]
      · rw [if_neg c2, if_neg c2]
  · show GX12_pence_L57 much hole all (m_w32 (much * S (20 + hole))) K (f + 1) b.1 b.2 (S 3) g = _
    conv => lhs; unfold GX12_pence_L57
    rw [sg, if_neg (by omega)]
