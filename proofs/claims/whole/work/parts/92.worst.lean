/-! worst -/
def wsG (S : Int → Int) (v : Int) (b : Int × Int) : Int × Int := if b.2 < slA S v then (v, slA S v) else b
theorem ws_C {g : MH} {S : Int → Int} {K : Int → MH → Option (Int × MH)} (D : Dr g S) (f1 : S 0 = 1) (m f : Nat) (v : Int) (b : Int × Int) (hf : m < f) (hv : v + m = cod S) (v0 : 0 ≤ v) (b0 : 0 ≤ b.1 ∧ b.1 < cod S ∧ b.2 = slA S b.1) : GX1_mostSlipping_L10 K f b.1 b.2 v g = K (fld (wsG S) m v b).1 g ∧ (0 ≤ (fld (wsG S) m v b).1 ∧ (fld (wsG S) m v b).1 < cod S ∧ (fld (wsG S) m v b).2 = slA S (fld (wsG S) m v b).1) := by
  have cb := cod_b D.1
  refine uploop (L := fun f b v => GX1_mostSlipping_L10 K f b.1 b.2 v g) (K := fun b => K b.1 g) (g := wsG S) (N := cod S) (I := fun _ b => 0 ≤ b.1 ∧ b.1 < cod S ∧ b.2 = slA S b.1) (fun f v b ib v0 v1 => ⟨?_, ?_⟩) (fun f b => ?_) m f v b hf hv v0 b0
  · show GX1_mostSlipping_L10 K (f + 1) b.1 b.2 v g = _
    conv => lhs; unfold GX1_mostSlipping_L10
    rw [D.2.2.1.1, gd_cons D.2.2.1.2.2.1, gd_nil, D.2.2.2.1.2.2.2.1, if_pos v1, slips_C D f1 v0 v1, bd_some, w32_id (x := v + 1) (by omega) (by omega)]
    unfold wsG
    by_cases c : b.2 < slA S v
    · rw [if_pos c, if_pos c]
    · rw [if_neg c, if_neg c]
  · show 0 ≤ (wsG S v b).1 ∧ (wsG S v b).1 < cod S ∧ (wsG S v b).2 = slA S (wsG S v b).1
    unfold wsG
    by_cases c : b.2 < slA S v
    · rw [if_pos c]
      exact ⟨v0, v1, rfl⟩
    · rw [if_neg c]
      exact ib
  · show GX1_mostSlipping_L10 K (f + 1) b.1 b.2 (cod S) g = _
    conv => lhs; unfold GX1_mostSlipping_L10
    rw [D.2.2.1.1, gd_cons D.2.2.1.2.2.1, gd_nil, D.2.2.2.1.2.2.2.1, if_neg (by omega)]
theorem ws_M {g : MH} {S : Int → Int} {u : Int} {K : Int → Int → MH → Option (Int × MH)} (D : Dr g S) (f1 : S 0 = 1) (m f : Nat) (v : Int) (b : Int × Int) (hf : m < f) (hv : v + m = cod S) (v0 : 0 ≤ v) : GX12_worst_L26 u K f b.1 b.2 v g = K (fld (wsG S) m v b).1 (fld (wsG S) m v b).2 g := by
  have cb := cod_b D.1
  refine (uploop (L := fun f b v => GX12_worst_L26 u K f b.1 b.2 v g) (K := fun b => K b.1 b.2 g) (g := wsG S) (N := cod S) (I := fun _ b => True) (fun f v b ib v0 v1 => ⟨?_, trivial⟩) (fun f b => ?_) m f v b hf hv v0 trivial).1
  · show GX12_worst_L26 u K (f + 1) b.1 b.2 v g = _
    conv => lhs; unfold GX12_worst_L26
    rw [D.cm, bd_some, if_pos v1, slips_M D f1 v0 v1, bd_some, w32_id (x := v + 1) (by omega) (by omega)]
    unfold wsG
    by_cases c : b.2 < slA S v
    · rw [if_pos c, if_pos c]
    · rw [if_neg c, if_neg c]
  · show GX12_worst_L26 u K (f + 1) b.1 b.2 (cod S) g = _
    conv => lhs; unfold GX12_worst_L26
    rw [D.cm, bd_some, if_neg (by omega)]
theorem c_worst (n : Int) : Call (GX11_worst n) (GX12_worst n) := by
  intro h H
  have mno : ¬ (m_rd h 344 0 = 1 ∧ 0 ≤ n ∧ n ≤ 1) → Wi (GX12_worst n h) (fun w h2 => -1 = w ∧ Inv h2) := by
    intro c
    unfold GX12_worst
    refine wi_be isFrame_ok ?_
    by_cases c0 : m_rd h 344 0 = 1
    · exact wi_in (by rw [t01]; exact fun z => z c0) (wi_be in_ok (wi_ip (by rw [t01]; omega) (wi_ret ⟨rfl, H⟩)))
    · exact wi_ip (by rw [t01]; exact c0) (wi_ret ⟨rfl, H⟩)
  unfold GX11_worst
  refine wi_be (hasFrame_ok H) ?_
  by_cases c : m_rd h 344 0 = 1
  · refine wi_in (by rw [t01]; exact fun z => z c) ?_
    by_cases n0 : n < 0
    · exact wi_ip n0 (wi_ret (mno (by omega)))
    refine wi_in n0 ?_
    by_cases n1 : 1 < n
    · exact wi_ip n1 (wi_ret (mno (by omega)))
    refine wi_in n1 ?_
    obtain ⟨g, e, F, D, I⟩ := drawNow_ok H
    have cb := cod_b D.1
    have sg := D.2.2.2.2.2
    have cp := cb.2.2.2 c
    have s0 := slA_b (c := 0) D.1
    have C := ws_C (K := fun w3 h4 => some (w3, h4)) D c (cod (m_rd h 344) - 1).toNat FU 1 (0, slA (m_rd h 344) 0) (by unfold FU; omega) (by omega) (by omega) ⟨by omega, cp, rfl⟩
    have M := ws_M (u := n) (K := fun w5 w6 h7 => if n = 0 then some (w5, h7) else some (w6, h7)) D c (cod (m_rd h 344)).toNat FU 0 (0, 0) (by unfold FU; omega) (by omega) (by omega)
    have e1 : fld (wsG (m_rd h 344)) (cod (m_rd h 344)).toNat 0 (0, 0) = fld (wsG (m_rd h 344)) (cod (m_rd h 344) - 1).toNat 1 (0, slA (m_rd h 344) 0) := by
      rw [show (cod (m_rd h 344)).toNat = (cod (m_rd h 344) - 1).toNat + 1 by omega]
      show fld (wsG (m_rd h 344)) (cod (m_rd h 344) - 1).toNat (0 + 1) (wsG (m_rd h 344) 0 (0, 0)) = _
      congr 1
      unfold wsG
      by_cases z : (0 : Int) < slA (m_rd h 344) 0
      · rw [if_pos z]
      · rw [if_neg z, show slA (m_rd h 344) 0 = 0 by omega]
    rw [e1] at M
    generalize fld (wsG (m_rd h 344)) (cod (m_rd h 344) - 1).toNat 1 (0, slA (m_rd h 344) 0) = r at C M
    obtain ⟨C1, C2, C3, C4⟩ := C
    have mo : GX1_mostSlipping g = some (r.1, g) := by
      unfold GX1_mostSlipping
      rw [slips_C D c (by omega) cp, bd_some]
      exact C1
    have mm : Wi (GX12_worst n g) (fun w h2 => (if n = 0 then r.1 else r.2) = w ∧ Inv h2) := by
      unfold GX12_worst
      refine wi_be isFrame_ok (wi_in (by rw [t01, sg]; exact fun z => z c) (wi_be in_ok (wi_in (by rw [t01]; omega) ?_)))
      rw [M]
      by_cases y : n = 0
      · rw [if_pos y, if_pos y]
        exact wi_ret ⟨rfl, I⟩
      · rw [if_neg y, if_neg y]
        exact wi_ret ⟨rfl, I⟩
    refine wi_bw e (wi_be mo ?_)
    by_cases y : n = 0
    · rw [if_pos y] at mm
      exact wi_ip y (wi_ret mm)
    · rw [if_neg y, C4] at mm
      exact wi_in y (wi_be (slips_C D c C2 C3) (wi_ret mm))
  · exact wi_ip (by rw [t01]; exact c) (wi_ret (mno (by omega)))
