/-! pence -/
theorem fld_app {β : Type} {g : Int → β → β} : ∀ (m n : Nat) (v : Int) (b : β), fld g (m + n) v b = fld g n (v + m) (fld g m v b) := by
  intro m
  induction m with
  | zero =>
    intro n v b
    rw [Nat.zero_add, show v + ((0 : Nat) : Int) = v by omega]
    rfl
  | succ m ih =>
    intro n v b
    rw [show m + 1 + n = (m + n) + 1 by omega]
    show fld g (m + n) (v + 1) (g v b) = fld g n (v + ((m + 1 : Nat) : Int)) (fld g m (v + 1) (g v b))
    rw [ih n (v + 1) (g v b), show v + 1 + (m : Int) = v + ((m + 1 : Nat) : Int) by omega]
theorem fld_id {β : Type} {g : Int → β → β} {P : β → Prop} {lo hi : Int} (e : ∀ v b, lo ≤ v → v < hi → P b → g v b = b) : ∀ (m : Nat) (v : Int) (b : β), lo ≤ v → v + m ≤ hi → P b → fld g m v b = b := by
  intro m
  induction m with
  | zero =>
    intro v b _ _ _
    rfl
  | succ m ih =>
    intro v b v0 v1 pb
    show fld g m (v + 1) (g v b) = b
    rw [e v b v0 (by omega) pb]
    exact ih (v + 1) b (by omega) (by omega) pb
def pcX (S : Int → Int) (much all v : Int) : Int := Int.tmod (m_w32 (much * S (20 + v))) all
def pcG (S : Int → Int) (much hole all : Int) (v : Int) (b : Int × Int) : Int × Int := (m_w32 (b.1 - m_w32 (Int.tdiv (m_w32 (much * S (20 + v))) all)), if pcX S much all hole < pcX S much all v then b.2 + 1 else if pcX S much all v = pcX S much all hole then (if v < hole then b.2 + 1 else b.2) else b.2)
theorem w32_r {x : Int} : -2147483648 ≤ m_w32 x ∧ m_w32 x ≤ 2147483647 := by
  unfold m_w32
  omega
theorem pcG_b {S : Int → Int} {much hole all v : Int} {b : Int × Int} (h : 0 ≤ b.2 ∧ b.2 ≤ v) : 0 ≤ (pcG S much hole all v b).2 ∧ (pcG S much hole all v b).2 ≤ v + 1 := by
  unfold pcG
  dsimp only
  split
  · omega
  split
  · split <;> omega
  · omega
theorem pc_C {g : MH} {S : Int → Int} {much hole all : Int} {K : Int → Int → MH → Option (Int × MH)} (R : ∀ i, 0 ≤ i → i < 6 → m_rd g 39 i = S (20 + i)) (a0 : all ≠ 0) (m f : Nat) (v : Int) (b : Int × Int) (hf : m < f) (hv : v + m = 6) (v0 : 0 ≤ v) (b0 : 0 ≤ b.2 ∧ b.2 ≤ v) : GX10_shareOf_L32 32 much hole all (pcX S much all hole) K f b.1 b.2 v g = K (fld (pcG S much hole all) m v b).1 (fld (pcG S much hole all) m v b).2 g := by
  refine (uploop (L := fun f b v => GX10_shareOf_L32 32 much hole all (pcX S much all hole) K f b.1 b.2 v g) (K := fun b => K b.1 b.2 g) (g := pcG S much hole all) (N := 6) (I := fun v b => 0 ≤ b.2 ∧ b.2 ≤ v) (fun f v b ib v0 v1 => ⟨?_, pcG_b ib⟩) (fun f b => ?_) m f v b hf hv v0 b0).1
  · show GX10_shareOf_L32 32 much hole all (pcX S much all hole) K (f + 1) b.1 b.2 v g = _
    conv => lhs; unfold GX10_shareOf_L32
    rw [if_pos v1, gd_ib v0 v1, gd_cons a0, gd_nil, gd_ib v0 v1, gd_cons a0, gd_nil, show (32 : Int) + 7 = 39 from rfl, R v v0 v1, w32_id (x := v + 1) (by omega) (by omega), w32_id (x := b.2 + 1) (by omega) (by omega)]
    show (if pcX S much all hole < pcX S much all v then _ else if pcX S much all v = pcX S much all hole then _ else _) = GX10_shareOf_L32 32 much hole all (pcX S much all hole) K f (pcG S much hole all v b).1 (pcG S much hole all v b).2 (v + 1) g
    unfold pcG
    dsimp only
    by_cases c1 : pcX S much all hole < pcX S much all v
    · rw [if_pos c1, if_pos c1]
    · rw [if_neg c1, if_neg c1]
      by_cases c2 : pcX S much all v = pcX S much all hole
      · rw [if_pos c2, if_pos c2]
        by_cases c3 : v < hole
        · rw [if_pos c3, if_pos c3]
        · rw [if_neg c3, if_neg c3]
      · rw [if_neg c2, if_neg c2]
  · show GX10_shareOf_L32 32 much hole all (pcX S much all hole) K (f + 1) b.1 b.2 6 g = _
    conv => lhs; unfold GX10_shareOf_L32
    rw [if_neg (by omega)]
theorem pc_M {g : MH} {S : Int → Int} {much hole all : Int} {K : Int → Int → MH → Option (Int × MH)} (sg : m_rd g 344 = S) (s3 : S 3 ≤ 6) (a0 : all ≠ 0) (m f : Nat) (v : Int) (b : Int × Int) (hf : m < f) (hv : v + m = S 3) (v0 : 0 ≤ v) (b0 : 0 ≤ b.2 ∧ b.2 ≤ v) : GX12_pence_L57 much hole all (m_w32 (much * S (20 + hole))) K f b.1 b.2 v g = K (fld (pcG S much hole all) m v b).1 (fld (pcG S much hole all) m v b).2 g := by
  refine (uploop (L := fun f b v => GX12_pence_L57 much hole all (m_w32 (much * S (20 + hole))) K f b.1 b.2 v g) (K := fun b => K b.1 b.2 g) (g := pcG S much hole all) (N := S 3) (I := fun v b => 0 ≤ b.2 ∧ b.2 ≤ v) (fun f v b ib v0 v1 => ⟨?_, pcG_b ib⟩) (fun f b => ?_) m f v b hf hv v0 b0).1
  · show GX12_pence_L57 much hole all (m_w32 (much * S (20 + hole))) K (f + 1) b.1 b.2 v g = _
    conv => lhs; unfold GX12_pence_L57
    rw [sg, if_pos v1, w32_id (x := 20 + v) (by omega) (by omega), gd_ib (by omega) (by omega), gd_cons a0, gd_nil, gd_cons a0, gd_nil, w32_id (x := v + 1) (by omega) (by omega), w32_id (x := b.2 + 1) (by omega) (by omega), w32_id (x := b.2 + 0) (by omega) (by omega), Int.add_zero]
    show (if pcX S much all hole < pcX S much all v then _ else if pcX S much all v = pcX S much all hole then _ else _) = GX12_pence_L57 much hole all (m_w32 (much * S (20 + hole))) K f (pcG S much hole all v b).1 (pcG S much hole all v b).2 (v + 1) g
    unfold pcG
    dsimp only
    by_cases c1 : pcX S much all hole < pcX S much all v
    · rw [if_pos c1, if_pos c1]
    · rw [if_neg c1, if_neg c1]
      by_cases c2 : pcX S much all v = pcX S much all hole
      · rw [if_pos c2, if_pos c2]
        by_cases c3 : v < hole
        · rw [if_pos c3, if_pos c3]
        · rw [if_neg c3, if_neg c3]
      · rw [if_neg c2, if_neg c2]
  · show GX12_pence_L57 much hole all (m_w32 (much * S (20 + hole))) K (f + 1) b.1 b.2 (S 3) g = _
    conv => lhs; unfold GX12_pence_L57
    rw [sg, if_neg (by omega)]
theorem wi_rw {o o' : Option (Int × MH)} {Q : Int → MH → Prop} (e : o = o') (k : Wi o' Q) : Wi o Q := by
  rw [e]
  exact k
theorem wv_rw {o o' : Option MH} {Q : MH → Prop} (e : o = o') (k : Wv o' Q) : Wv o Q := by
  rw [e]
  exact k
theorem fld_P {β : Type} {g : Int → β → β} {P : β → Prop} (e : ∀ v b, P b → P (g v b)) : ∀ (m : Nat) (v : Int) (b : β), P b → P (fld g m v b) := by
  intro m
  induction m with
  | zero =>
    intro v b pb
    exact pb
  | succ m ih =>
    intro v b pb
    exact ih (v + 1) (g v b) (e v b pb)
theorem pc_eq {S : Int → Int} {much hole all : Int} (W : WfW S) (n0 : 0 ≤ much) (n1 : much ≤ 9999) (c0 : 0 ≤ hole) (c1 : hole < S 3) (s3 : S 3 ≤ 6) (all0 : all ≠ 0) : fld (pcG S much hole all) 6 0 (much, 0) = fld (pcG S much hole all) (S 3).toNat 0 (much, 0) := by
  have q := W.2.1 hole c0 (by omega)
  have mb : 0 ≤ much * S (20 + hole) ∧ much * S (20 + hole) ≤ 9999 * 999 := ⟨Int.mul_nonneg n0 (by omega), Int.mul_le_mul n1 (by omega) (by omega) (by omega)⟩
  have x0 : 0 ≤ pcX S much all hole := by
    unfold pcX
    rw [w32_id (by omega) (by omega)]
    exact Int.tmod_nonneg _ mb.1
  rw [show 6 = (S 3).toNat + (6 - (S 3).toNat) by omega, fld_app]
  refine fld_id (lo := S 3) (hi := 6) (P := fun b => -2147483648 ≤ b.1 ∧ b.1 ≤ 2147483647) (fun v b v0 v1 pb => ?_) _ _ _ (by omega) (by omega) (fld_P (P := fun (b : Int × Int) => -2147483648 ≤ b.1 ∧ b.1 ≤ 2147483647) (fun v b _ => w32_r) _ _ _ ⟨by show -2147483648 ≤ much; omega, by show much ≤ 2147483647; omega⟩)
  have z := ((W.2.1 v (by omega) v1).2.2.2.2 v0).2
  have xv : pcX S much all v = 0 := by
    unfold pcX
    rw [z, Int.mul_zero, w32_id (by omega) (by omega)]
    exact Int.zero_tmod _
  unfold pcG
  rw [xv, z, Int.mul_zero, w32_id (x := 0) (by omega) (by omega), Int.zero_tdiv, w32_id (x := 0) (by omega) (by omega), Int.sub_zero, w32_id pb.1 pb.2, if_neg (by omega)]
  by_cases c : 0 = pcX S much all hole
  · rw [if_pos c, if_neg (by omega)]
  · rw [if_neg c]
theorem c_pence (n m : Int) : Call (GX11_pence n m) (GX12_pence n m) := by
  intro h H
  obtain ⟨⟨d1, d2, d3, d4, d5, d6, d7⟩, w1, w2, w3, w4, w5, w6, w7⟩ := H.2.2.2.1
  obtain ⟨k1, k2, k3, k4, k5, k6, k7⟩ := H.nw
  have W := w1.2.2.1
  have fb := w1.1.b
  unfold GX11_pence
  refine wi_be (hasHole_ok (t := 21) d1) ?_
  by_cases c : 0 ≤ m ∧ m < m_rd h 344 3
  · refine wi_in (by rw [t01]; exact fun z => z c) ?_
    by_cases n0 : n < 0
    · refine wi_ip n0 (wi_ret ?_)
      unfold GX12_pence
      exact wi_be isHole_ok (wi_in (by rw [t01]; exact fun z => z c) (wi_be in_ok (wi_ip (by rw [t01]; omega) (wi_ret ⟨rfl, H⟩))))
    refine wi_in n0 ?_
    by_cases n1 : 9999 < n
    · refine wi_ip n1 (wi_ret ?_)
      unfold GX12_pence
      exact wi_be isHole_ok (wi_in (by rw [t01]; exact fun z => z c) (wi_be in_ok (wi_ip (by rw [t01]; omega) (wi_ret ⟨rfl, H⟩))))
    refine wi_in n1 (wi_bd ?_)
    unfold GX10_shareOf
    refine wi_be (bags_all (w := 32) (by decide) (H.1.2.2 39 (by decide)) d3 W) ?_
    by_cases a0 : sm6 (m_rd h 344) 20 = 0
    · refine wi_ip a0 (wi_ret (wi_ret ?_))
      unfold GX12_pence
      exact wi_be isHole_ok (wi_in (by rw [t01]; exact fun z => z c) (wi_be in_ok (wi_in (by rw [t01]; omega) (wi_be (over_bg w1.1 W) (wi_ip a0 (wi_ret ⟨rfl, H⟩))))))
    · have q := W.2.1 m c.1 (by omega)
      have mb : 0 ≤ n * m_rd h 344 (20 + m) ∧ n * m_rd h 344 (20 + m) ≤ 9999 * 999 := ⟨Int.mul_nonneg (by omega) (by omega), Int.mul_le_mul (by omega) (by omega) (by omega) (by omega)⟩
      have sb := sm6_b (g := m_rd h 344) (b := 20) (B := 999) W.bg
      have db : 0 ≤ Int.tdiv (n * m_rd h 344 (20 + m)) (sm6 (m_rd h 344) 20) ∧ Int.tdiv (n * m_rd h 344 (20 + m)) (sm6 (m_rd h 344) 20) ≤ n * m_rd h 344 (20 + m) := by
        rw [Int.tdiv_eq_ediv_of_nonneg mb.1]
        exact ⟨Int.ediv_nonneg mb.1 sb.1, Int.ediv_le_self _ mb.1⟩
      refine wi_in a0 (wi_ib (by omega) (by omega) (wi_gc a0 (wi_gn ?_)))
      rw [show (32 : Int) + 7 = 39 from rfl, k6 m c.1 (by omega)]
      refine wi_rw (pc_C (S := m_rd h 344) (much := n) (hole := m) (all := sm6 (m_rd h 344) 20) k6 a0 6 FU 0 (n, 0) (by unfold FU; omega) (by omega) (by omega) ⟨by show (0 : Int) ≤ 0; omega, by show (0 : Int) ≤ 0; omega⟩) ?_
      rw [pc_eq W (by omega) (by omega) c.1 c.2 (by omega) a0]
      have mod : ∀ v, v = (if (fld (pcG (m_rd h 344) n m (sm6 (m_rd h 344) 20)) (m_rd h 344 3).toNat 0 (n, 0)).2 < (fld (pcG (m_rd h 344) n m (sm6 (m_rd h 344) 20)) (m_rd h 344 3).toNat 0 (n, 0)).1 then m_w32 (m_w32 (Int.tdiv (m_w32 (n * m_rd h 344 (20 + m))) (sm6 (m_rd h 344) 20)) + 1) else m_w32 (Int.tdiv (m_w32 (n * m_rd h 344 (20 + m))) (sm6 (m_rd h 344) 20))) → Wi (GX12_pence n m h) (fun w h2 => v = w ∧ Inv h2) := by
        intro v hv
        unfold GX12_pence
        refine wi_be isHole_ok (wi_in (by rw [t01]; exact fun z => z c) (wi_be in_ok (wi_in (by rw [t01]; omega) (wi_be (over_bg w1.1 W) (wi_in a0 ?_)))))
        rw [w32_id (x := 20 + m) (by omega) (by omega)]
        refine wi_ib (by omega) (by omega) (wi_gn ?_)
        refine wi_rw (pc_M (S := m_rd h 344) (much := n) (hole := m) (all := sm6 (m_rd h 344) 20) rfl (by omega) a0 (m_rd h 344 3).toNat FU 0 (n, 0) (by unfold FU; omega) (by omega) (by omega) ⟨by show (0 : Int) ≤ 0; omega, by show (0 : Int) ≤ 0; omega⟩) ?_
        refine wi_gc a0 (wi_gn ?_)
        refine wi_it (fun c1 => wi_ret ⟨?_, H⟩) (fun c1 => wi_ret ⟨?_, H⟩)
        · rw [hv, if_pos c1]
        · rw [hv, if_neg c1, w32_id (x := n * m_rd h 344 (20 + m)) (by omega) (by omega), w32_id (x := Int.tdiv _ _) (by omega) (by omega), Int.add_zero, w32_id (x := Int.tdiv _ _) (by omega) (by omega)]
      refine wi_ib (by omega) (by omega) (wi_gc a0 (wi_gn ?_))
      refine wi_it (fun c1 => wi_ret (wi_ret (mod _ ?_))) (fun c1 => wi_ret (wi_ret (mod _ ?_)))
      · rw [if_pos c1, k6 m c.1 (by omega)]
      · rw [if_neg c1, k6 m c.1 (by omega)]
  · refine wi_ip (by rw [t01]; exact c) (wi_ret ?_)
    unfold GX12_pence
    exact wi_be isHole_ok (wi_ip (by rw [t01]; exact c) (wi_ret ⟨rfl, H⟩))
