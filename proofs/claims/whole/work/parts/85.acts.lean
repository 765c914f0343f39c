/-- an act of the class on `now`, then of the reference, behind remembering -/
theorem act_fin {h g1 g2 g3 g4 : MH} (H : Inv h) (F1 : Fr FrC h g1) (C : RemC h g1) (F2 : Fr (fun x _ => 32 ≤ x ∧ x < 40) g1 g2) (F3 : Fr FrM g2 g3) (M : RemM g2 g3) (F4 : Fr (fun x j => x = 344 ∧ 10 ≤ j ∧ j < 82) g3 g4) {S' : Int → Int} (R : WkR g2 32 S') (e : m_rd g4 344 = S') (W : Wf 999 S') : Inv g4 := by
  have p := H.2.2.2.2.2
  refine act_inv H ?_ ?_ ?_ ?_ ?_
  · refine (((F1.wk ?_).tr (F2.wk ?_)).tr (F3.wk ?_)).tr (F4.wk ?_)
    · intro a j z
      exact Or.inl z
    · intro a j z
      exact Or.inr (Or.inr (Or.inl z))
    · intro a j z
      exact Or.inr (Or.inl z)
    · intro a j z
      exact Or.inr (Or.inr (Or.inr (Or.inl z)))
  · refine C.cg p.2.2.2.1 p.2.2.2.2.1 (fun a j z => ?_)
    unfold FrC at z
    rw [F4.rd (by omega), F3.rd (by unfold FrM; omega), F2.rd (by omega)]
  · refine (M.pre (fun a j z => ?_)).cg (fun a j z => ?_)
    · unfold FrM at z
      rw [F2.rd (by omega), F1.rd (by unfold FrC; omega)]
    · unfold FrM at z
      exact F4.rd (by omega)
  · rw [e]
    refine R.cg (fun a j z1 z2 => ?_)
    rw [F4.rd (by omega), F3.rd (by unfold FrM; omega)]
  · rw [e]
    exact W
/-- remembering: what an act begins with -/
theorem act_rem {h : MH} (H : Inv h) : ∃ g1, GX11_remember h = some g1 ∧ Fr FrC h g1 ∧ RemC h g1 ∧ WkR g1 32 (m_rd h 344) := by
  obtain ⟨p1, p2, p3, p4, p5, p6⟩ := H.2.2.2.2.2
  obtain ⟨g1, e1, F1, C⟩ := rem_ok (h := h) H.2.2.2.1.1.2.2.1 H.2.2.2.1.2.1 p4 p5 p2 p3
  refine ⟨g1, e1, F1, C, WkR.cg (h := h) H.2.2.2.1.1.2.2.1 (fun a j z1 z2 => F1.rd (by unfold FrC; omega))⟩
theorem act_keep {h g1 g2 : MH} (H : Inv h) (F1 : Fr FrC h g1) (F2 : Fr (fun x _ => 32 ≤ x ∧ x < 40) g1 g2) : ∃ g3, GX12_keepsAct g2 = some g3 ∧ Fr FrM g2 g3 ∧ RemM g2 g3 ∧ m_rd g2 344 = m_rd h 344 ∧ m_rd g3 344 = m_rd h 344 := by
  obtain ⟨p1, p2, p3, p4, p5, p6⟩ := H.2.2.2.2.2
  have e : m_rd g2 334 25 = m_rd h 334 25 := by rw [F2.rd (by omega), F1.rd (by unfold FrC; omega)]
  obtain ⟨g3, e3, F3, M⟩ := keepsAct_ok (h := g2) (by omega) (by omega)
  have e4 : m_rd g2 344 = m_rd h 344 := funext fun j => by rw [F2.rd (by omega), F1.rd (by unfold FrC; omega)]
  refine ⟨g3, e3, F3, M, e4, ?_⟩
  rw [← e4]
  exact funext fun j => F3.rd (by unfold FrM; omega)
theorem c_post (n : Int) : Call (GX11_post n) (GX12_post n) := by
  intro h H
  obtain ⟨⟨d1, d2, d3, d4, d5, d6, d7⟩, w1, w2, w3, w4, w5, w6, w7⟩ := H.2.2.2.1
  obtain ⟨k1, k2, k3, k4, k5, k6, k7⟩ := H.nw
  have W := w1.2.2.1
  unfold GX11_post
  rw [hasCode_ok (t := 21) d1, bd_some]
  by_cases c : 0 ≤ n ∧ n < cod (m_rd h 344)
  · rw [if_neg (by rw [t01]; exact fun z => z c)]
    by_cases c2 : m_rd h 344 12 = 20
    · rw [if_neg (by omega)]
      refine wi_ret ?_
      unfold GX12_post
      rw [isCode_ok w1.1, bd_some, if_neg (by rw [t01]; exact fun z => z c), if_pos c2]
      exact wi_ret ⟨rfl, H⟩
    · have n1 := W.1
      rw [if_pos (by omega)]
      obtain ⟨g1, e1, F1, C, R1⟩ := act_rem H
      obtain ⟨g2, e2, F2, R2⟩ := queue_ok (c := n) R1 (by omega) (by omega) w1.2.1.1.2
      obtain ⟨g3, e3, F3, M, s2, s3⟩ := act_keep H F1 F2
      obtain ⟨g4, e4, F4, s4⟩ := comes_ok (c := n) (h := g3) (by rw [s3]; omega) (by rw [s3]; omega)
      rw [s3] at s4
      refine wi_bw e1 (wi_bw e2 (wi_ret ?_))
      unfold GX12_post
      rw [isCode_ok (by rw [s2]; exact w1.1), bd_some, s2, if_neg (by rw [t01]; exact fun z => z c), if_neg c2]
      refine wi_bw e3 (wi_bw e4 (wi_ret ⟨?_, act_fin H F1 C F2 F3 M F4 R2 s4 (cm_wf w1 c.1 c.2)⟩))
      rw [s4]
      exact R2.2.2.1
  · rw [if_pos (by rw [t01]; exact c)]
    refine wi_ret ?_
    unfold GX12_post
    rw [isCode_ok w1.1, bd_some, if_pos (by rw [t01]; exact c)]
    exact wi_ret ⟨rfl, H⟩
theorem c_tie (n : Int) : Call (GX11_tie n) (GX12_tie n) := by
  intro h H
  obtain ⟨⟨d1, d2, d3, d4, d5, d6, d7⟩, w1, w2, w3, w4, w5, w6, w7⟩ := H.2.2.2.1
  obtain ⟨k1, k2, k3, k4, k5, k6, k7⟩ := H.nw
  have W := w1.2.2.1
  have fb := w1.1.b
  unfold GX11_tie
  rw [hasHole_ok (t := 21) d1, bd_some]
  by_cases c : 0 ≤ n ∧ n < m_rd h 344 3
  · rw [if_neg (by rw [t01]; exact fun z => z c), gd_ib (by omega) (by omega), gd_nil, k5 n (by omega) (by omega)]
    by_cases c2 : m_rd h 344 (14 + n) = 0
    · rw [if_pos c2]
      refine wi_ret ?_
      unfold GX12_tie
      rw [isHole_ok, bd_some, if_neg (by rw [t01]; exact fun z => z c), w32_id (by omega) (by omega), gd_ib (by omega) (by omega), gd_nil, if_pos c2]
      exact wi_ret ⟨rfl, H⟩
    · rw [if_neg c2]
      obtain ⟨g1, e1, F1, C, R1⟩ := act_rem H
      obtain ⟨g2, e2, F2, R2⟩ := bagUp_ok (t := n) R1 W (by omega) (by omega) w1.2.1.1.2
      obtain ⟨g3, e3, F3, M, s2, s3⟩ := act_keep H F1 F2
      obtain ⟨g4, e4, F4, s4⟩ := ties_ok (t := n) (h := g3) (by rw [s3]; exact W) (by omega) (by omega)
      rw [s3] at s4
      refine wi_bw e1 (wi_ib (by omega) (by omega) (wi_gn (wi_bw e2 (wi_ret ?_))))
      unfold GX12_tie
      rw [isHole_ok, bd_some, s2, if_neg (by rw [t01]; exact fun z => z c), w32_id (by omega) (by omega), gd_ib (by omega) (by omega), gd_nil, if_neg c2]
      refine wi_bw e3 (wi_ib (by omega) (by omega) (wi_gn (wi_bw e4 (wi_ret ⟨?_, act_fin H F1 C F2 F3 M F4 R2 s4 (ti_wf w1 c.1 c.2)⟩))))
      rw [s3]
      exact R1.2.2.2.2.1 n (by omega) (by omega)
  · rw [if_pos (by rw [t01]; exact c)]
    refine wi_ret ?_
    unfold GX12_tie
    rw [isHole_ok, bd_some, if_pos (by rw [t01]; exact c)]
    exact wi_ret ⟨rfl, H⟩
