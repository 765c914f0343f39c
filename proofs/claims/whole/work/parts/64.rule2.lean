theorem LR.mk {h h' : MH} {s : Nat} (hL : LR h) (d : Hd h' (h.1.1 + 5) s h.1.2.2 (rK h) (rN h) (fun a j => if a = (h.1.1 : Int) ∧ j < 0 then -1 else rM h a j)) : LR h' ∧ KD h h' ∧ TO h' (h.1.1 : Int) 5 := by
  have hc := hL.1
  have hk : ∀ a : Int, a < (h.1.1 : Int) → m_kd h' a = m_kd h a := fun a ha => by
    rw [d.kd]; unfold rK
    (repeat first | rw [if_pos (by omega)] | rw [if_neg (by omega)])
  have hn : ∀ a : Int, a < (h.1.1 : Int) → m_ln h' a = m_ln h a := fun a ha => by
    rw [d.ln]; unfold rN
    (repeat first | rw [if_pos (by omega)] | rw [if_neg (by omega)])
  have hr : ∀ a j : Int, a < (h.1.1 : Int) → m_rd h' a j = m_rd h a j := fun a j ha => by
    rw [d.rd]; unfold rM
    (repeat first | rw [if_pos (by omega)] | rw [if_neg (by omega)])
  have hp : ∀ a : Int, a < (h.1.1 : Int) → h'.2.1 a = h.2.1 a := fun a ha => Prod.ext (hk a ha) (hn a ha)
  have kc : m_kd h' (h.1.1 : Int) = 105 := by
    rw [d.kd]; unfold rK
    (repeat first | rw [if_pos (by omega)] | rw [if_neg (by omega)])
  refine ⟨⟨by rw [d.1]; omega, fun p hp2 => by rw [hp _ (by omega)]; exact hL.2.1 p hp2, fun c k a hf t => ?_, fun i i0 i1 => by rw [hr _ _ (by omega)]; exact hL.2.2.2.1 i i0 i1, fun i i0 i1 => by rw [hr _ _ (by omega)]; exact hL.2.2.2.2.1 i i0 i1, fun i i0 i1 => by rw [hr _ _ (by omega)]; exact hL.2.2.2.2.2 i i0 i1⟩, ⟨by rw [d.1]; omega, fun a _ ha => hp a ha⟩, ⟨kc, by omega, by rw [d.1]; omega⟩⟩
  obtain ⟨t1, t2, t3⟩ := t
  rw [d.1] at t3
  by_cases ha : a < (h.1.1 : Int)
  · rw [hk a ha] at t1
    obtain ⟨e1, e2, e3, e4, e5⟩ := hL.2.2.1 c k a hf ⟨t1, t2, ha⟩
    refine ⟨by rw [hr a k ha]; exact e1, e2, by rw [d.1]; omega, by rw [hk _ e3]; exact e4, fun z => by rw [hn _ e3]; exact e5 z⟩
  · have ea : a = (h.1.1 : Int) := by
      rw [d.kd] at t1
      unfold rK at t1
      by_cases z0 : a = (h.1.1 : Int)
      · exact z0
      · rw [if_neg z0] at t1
        by_cases z1 : a = (h.1.1 : Int) + 1
        · rw [if_pos z1] at t1; omega
        · rw [if_neg z1, if_pos (by omega)] at t1; omega
    subst ea
    have ec : c = 5 := by rw [kc] at t1; omega
    subst ec
    rcases (show k = 0 ∨ k = 1 ∨ k = 2 ∨ k = 3 by
      match k, hf with
      | 0, _ => omega
      | 1, _ => omega
      | 2, _ => omega
      | 3, _ => omega
      | n + 4, hf => cases hf) with rfl | rfl | rfl | rfl
    · refine ⟨?_, by show 0 ≤ (h.1.1 : Int) + 2; omega, by rw [d.1]; show (h.1.1 : Int) + 2 < _; omega, ?_, fun z => absurd z (by decide)⟩
      · rw [d.rd]; unfold rM
        (repeat first | rw [if_pos (by omega)] | rw [if_neg (by omega)])
        rfl
      · show m_kd h' ((h.1.1 : Int) + 2) = 1
        rw [d.kd]; unfold rK
        (repeat first | rw [if_pos (by omega)] | rw [if_neg (by omega)])
    · refine ⟨?_, by show 0 ≤ (h.1.1 : Int) + 3; omega, by rw [d.1]; show (h.1.1 : Int) + 3 < _; omega, ?_, fun z => absurd z (by decide)⟩
      · rw [d.rd]; unfold rM
        (repeat first | rw [if_pos (by omega)] | rw [if_neg (by omega)])
        rfl
      · show m_kd h' ((h.1.1 : Int) + 3) = 1
        rw [d.kd]; unfold rK
        (repeat first | rw [if_pos (by omega)] | rw [if_neg (by omega)])
    · refine ⟨?_, by show 0 ≤ (h.1.1 : Int) + 4; omega, by rw [d.1]; show (h.1.1 : Int) + 4 < _; omega, ?_, fun z => absurd z (by decide)⟩
      · rw [d.rd]; unfold rM
        (repeat first | rw [if_pos (by omega)] | rw [if_neg (by omega)])
        rfl
      · show m_kd h' ((h.1.1 : Int) + 4) = 1
        rw [d.kd]; unfold rK
        (repeat first | rw [if_pos (by omega)] | rw [if_neg (by omega)])
    · refine ⟨?_, by show 0 ≤ (h.1.1 : Int) + 1; omega, by rw [d.1]; show (h.1.1 : Int) + 1 < _; omega, ?_, fun z => ?_⟩
      · rw [d.rd]; unfold rM
        (repeat first | rw [if_pos (by omega)] | rw [if_neg (by omega)])
        rfl
      · show m_kd h' ((h.1.1 : Int) + 1) = 2
        rw [d.kd]; unfold rK
        (repeat first | rw [if_pos (by omega)] | rw [if_neg (by omega)])
      · show m_ln h' ((h.1.1 : Int) + 1) = 60
        rw [d.ln]; unfold rN
        (repeat first | rw [if_pos (by omega)] | rw [if_neg (by omega)])
