/-! SUMS over the holes; count; feed -/
theorem kk_at {h : MH} (H : KK h) (p : Nat) (hp : p < 359) : h.2.1 (p : Int) = layL.getD p (0, 0) := H.2.2 p hp
def sumn (g : Int → Int) (b : Int) : Nat → Int
  | 0 => 0
  | n + 1 => sumn g b n + g (b + n)
def sm6 (g : Int → Int) (b : Int) : Int := g b + g (b + 1) + g (b + 2) + g (b + 3) + g (b + 4) + g (b + 5)
theorem sumn_6 {g : Int → Int} {b : Int} : sumn g b 6 = sm6 g b := by
  unfold sm6
  show 0 + g (b + 0) + g (b + 1) + g (b + 2) + g (b + 3) + g (b + 4) + g (b + 5) = _
  rw [Int.add_zero, Int.zero_add]
theorem sumn_z {g : Int → Int} {b : Int} (n m : Nat) (z : ∀ i : Int, (n : Int) ≤ i → i < n + m → g (b + i) = 0) : sumn g b (n + m) = sumn g b n := by
  induction m with
  | zero => rfl
  | succ m ih =>
    show sumn g b (n + m) + g (b + (n + m : Nat)) = _
    rw [ih (fun i i0 i1 => z i i0 (by omega)), z _ (by omega) (by omega), Int.add_zero]
theorem sumn_b {g : Int → Int} {b B : Int} (n : Nat) (z : ∀ i : Int, 0 ≤ i → i < n → 0 ≤ g (b + i) ∧ g (b + i) ≤ B) : 0 ≤ sumn g b n ∧ sumn g b n ≤ B * n := by
  induction n with
  | zero => exact ⟨Int.le_refl _, by simp [sumn]⟩
  | succ n ih =>
    obtain ⟨a1, a2⟩ := ih (fun i i0 i1 => z i i0 (by omega))
    obtain ⟨b1, b2⟩ := z n (by omega) (by omega)
    refine ⟨?_, ?_⟩
    · show 0 ≤ sumn g b n + g (b + n)
      omega
    · show sumn g b n + g (b + n) ≤ B * ((n + 1 : Nat) : Int)
      rw [Int.natCast_add, Int.mul_add]
      omega
theorem sumOver_L {b : Int} {K : Int → MH → Option (Int × MH)} {h : MH} {N : Nat} (hN : m_rd h 344 3 = N) (hN6 : N ≤ 6) (hb0 : 0 ≤ b) (hb1 : b ≤ 100) (hz : ∀ i, 0 ≤ i → i < 6 → 0 ≤ m_rd h 344 (b + i) ∧ m_rd h 344 (b + i) ≤ 999) : ∀ (m f v : Nat), m < f → v + m = N → GX12_sumOver_L4 b K f (sumn (m_rd h 344) b v) v h = K (sumn (m_rd h 344) b N) h := by
  intro m
  induction m with
  | zero =>
    intro f v hf hv
    obtain ⟨g, rfl⟩ : ∃ g, f = g + 1 := ⟨f - 1, by omega⟩
    conv => lhs; unfold GX12_sumOver_L4
    rw [if_neg (by omega), show v = N by omega]
  | succ m ih =>
    intro f v hf hv
    obtain ⟨g, rfl⟩ : ∃ g, f = g + 1 := ⟨f - 1, by omega⟩
    conv => lhs; unfold GX12_sumOver_L4
    obtain ⟨a1, a2⟩ := sumn_b (g := m_rd h 344) (b := b) (B := 999) v (fun i i0 i1 => hz i i0 (by omega))
    obtain ⟨b1, b2⟩ := hz v (by omega) (by omega)
    rw [if_pos (by omega), w32_id (x := b + v) (by omega) (by omega), gd_ib (by omega) (by omega), gd_nil, w32_id (x := (v : Int) + 1) (by omega) (by omega), w32_id (x := sumn (m_rd h 344) b v + m_rd h 344 (b + v)) (by omega) (by omega)]
    exact ih g (v + 1) (by omega) (by omega)
theorem sumOver_ok {b : Int} {h : MH} (hn0 : 0 ≤ m_rd h 344 3) (hn : m_rd h 344 3 ≤ 6) (hb0 : 0 ≤ b) (hb1 : b ≤ 100) (hz : ∀ i, 0 ≤ i → i < 6 → 0 ≤ m_rd h 344 (b + i) ∧ m_rd h 344 (b + i) ≤ 999) (ho : ∀ i, m_rd h 344 3 ≤ i → i < 6 → m_rd h 344 (b + i) = 0) : GX12_sumOver b h = some (sm6 (m_rd h 344) b, h) := by
  obtain ⟨N, hN⟩ : ∃ N : Nat, m_rd h 344 3 = N := ⟨(m_rd h 344 3).toNat, by omega⟩
  unfold GX12_sumOver
  have q := sumOver_L (b := b) (K := fun w1 h2 => some (w1, h2)) hN (by omega) hb0 hb1 hz N FU 0 (by unfold FU; omega) (by omega)
  have r := sumn_z (g := m_rd h 344) (b := b) N (6 - N) (fun i i0 i1 => ho i (by omega) (by omega))
  rw [show N + (6 - N) = 6 by omega, sumn_6] at r
  rw [r]
  exact q
theorem sumOf_step {a v1 v2 : Int} {K : Int → MH → Option (Int × MH)} {f : Nat} {h : MH} (ha : 0 ≤ a) (hk : h.2.1 a = (1, 6)) (h0 : 0 ≤ v2) (h6 : v2 < 6) : GX10_sumOf_L4 a K (f + 1) v1 v2 h = GX10_sumOf_L4 a K f (m_w32 (v1 + m_rd h a v2)) (v2 + 1) h := by
  conv => lhs; unfold GX10_sumOf_L4
  have k1 : m_kd h a = 1 := by unfold m_kd; rw [hk]
  have k2 : m_ln h a = 6 := by unfold m_ln; rw [hk]
  rw [gd_cons ⟨ha, by omega, by omega⟩, gd_nil, if_pos (by omega), gd_cons ⟨ha, k1, h0, by omega⟩, gd_nil, w32_id (x := v2 + 1) (by omega) (by omega)]
theorem sumOf_ok {a : Int} {h : MH} (ha : 0 ≤ a) (hk : h.2.1 a = (1, 6)) (hz : ∀ i, 0 ≤ i → i < 6 → 0 ≤ m_rd h a i ∧ m_rd h a i ≤ 999) : GX10_sumOf a h = some (sm6 (m_rd h a) 0, h) := by
  unfold GX10_sumOf
  have k1 : m_kd h a = 1 := by unfold m_kd; rw [hk]
  have k2 : m_ln h a = 6 := by unfold m_ln; rw [hk]
  have z0 := hz 0 (by omega) (by omega)
  have z1 := hz 1 (by omega) (by omega)
  have z2 := hz 2 (by omega) (by omega)
  have z3 := hz 3 (by omega) (by omega)
  have z4 := hz 4 (by omega) (by omega)
  have z5 := hz 5 (by omega) (by omega)
  rw [show FU = 1993 + 1 + 1 + 1 + 1 + 1 + 1 + 1 from rfl, sumOf_step ha hk (by omega) (by omega), sumOf_step ha hk (by omega) (by omega), sumOf_step ha hk (by omega) (by omega), sumOf_step ha hk (by omega) (by omega), sumOf_step ha hk (by omega) (by omega), sumOf_step ha hk (by omega) (by omega)]
  conv => lhs; unfold GX10_sumOf_L4
  rw [gd_cons ⟨ha, by omega, by omega⟩, gd_nil, if_neg (by omega)]
  simp only [Int.reduceAdd]
  rw [w32_id (x := 0 + m_rd h a 0) (by omega) (by omega), w32_id (x := _ + m_rd h a 1) (by omega) (by omega), w32_id (x := _ + m_rd h a 2) (by omega) (by omega), w32_id (x := _ + m_rd h a 3) (by omega) (by omega), w32_id (x := _ + m_rd h a 4) (by omega) (by omega), w32_id (x := _ + m_rd h a 5) (by omega) (by omega)]
  unfold sm6
  simp only [Int.zero_add]
theorem sm6_eq {f g : Int → Int} {a b : Int} (e : ∀ i, 0 ≤ i → i < 6 → f (a + i) = g (b + i)) : sm6 f a = sm6 g b := by
  unfold sm6
  have e0 := e 0 (by omega) (by omega)
  rw [Int.add_zero, Int.add_zero] at e0
  rw [e0, e 1 (by omega) (by omega), e 2 (by omega) (by omega), e 3 (by omega) (by omega), e 4 (by omega) (by omega), e 5 (by omega) (by omega)]
theorem sm6_b {g : Int → Int} {b B : Int} (z : ∀ i, 0 ≤ i → i < 6 → 0 ≤ g (b + i) ∧ g (b + i) ≤ B) : 0 ≤ sm6 g b ∧ sm6 g b ≤ 6 * B := by
  unfold sm6
  have z0 := z 0 (by omega) (by omega)
  have z1 := z 1 (by omega) (by omega)
  have z2 := z 2 (by omega) (by omega)
  have z3 := z 3 (by omega) (by omega)
  have z4 := z 4 (by omega) (by omega)
  have z5 := z 5 (by omega) (by omega)
  rw [Int.add_zero] at z0
  omega
/-- the class's and the reference's sum of what lies, of bags -/
theorem WfW.ly {S : Int → Int} (H : WfW S) : ∀ i, 0 ≤ i → i < 6 → 0 ≤ S (14 + i) ∧ S (14 + i) ≤ 999 := fun i i0 i1 => by
  have := H.2.1 i i0 i1
  omega
theorem WfW.bg {S : Int → Int} (H : WfW S) : ∀ i, 0 ≤ i → i < 6 → 0 ≤ S (20 + i) ∧ S (20 + i) ≤ 999 := fun i i0 i1 => by
  have := H.2.1 i i0 i1
  omega
theorem lying_all {h : MH} {w : Int} {S : Int → Int} (hw : 0 ≤ w) (hk : h.2.1 (w + 6) = (1, 6)) (R : WkR h w S) (W : WfW S) : GX10_lyingInAll w h = some (sm6 S 14, h) := by
  obtain ⟨a1, a2, a3, a4, a5, a6, a7⟩ := R
  unfold GX10_lyingInAll
  rw [sumOf_ok (by omega) hk (fun i i0 i1 => by rw [a5 i i0 i1]; exact W.ly i i0 i1), bd_some, sm6_eq (g := S) (b := 14) (fun i i0 i1 => by rw [Int.zero_add]; exact a5 i i0 i1)]
theorem bags_all {h : MH} {w : Int} {S : Int → Int} (hw : 0 ≤ w) (hk : h.2.1 (w + 7) = (1, 6)) (R : WkR h w S) (W : WfW S) : GX10_bagsOfAll w h = some (sm6 S 20, h) := by
  obtain ⟨a1, a2, a3, a4, a5, a6, a7⟩ := R
  unfold GX10_bagsOfAll
  rw [sumOf_ok (by omega) hk (fun i i0 i1 => by rw [a6 i i0 i1]; exact W.bg i i0 i1), bd_some, sm6_eq (g := S) (b := 20) (fun i i0 i1 => by rw [Int.zero_add]; exact a6 i i0 i1)]
theorem over_ly {h : MH} (F : WfF (m_rd h 344)) (W : WfW (m_rd h 344)) : GX12_sumOver 14 h = some (sm6 (m_rd h 344) 14, h) := by
  have b := F.b
  exact sumOver_ok (by omega) (by omega) (by omega) (by omega) W.ly (fun i i0 i1 => ((W.2.1 i (by omega) i1).2.2.2.2 i0).1)
theorem over_bg {h : MH} (F : WfF (m_rd h 344)) (W : WfW (m_rd h 344)) : GX12_sumOver 20 h = some (sm6 (m_rd h 344) 20, h) := by
  have b := F.b
  exact sumOver_ok (by omega) (by omega) (by omega) (by omega) W.bg (fun i i0 i1 => ((W.2.1 i (by omega) i1).2.2.2.2 i0).2)
