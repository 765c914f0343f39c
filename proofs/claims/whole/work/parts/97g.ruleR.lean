/-! rule -/
theorem RulI.cf {h h' : MH} {k r : Int} (H : RulI h k r) (ek : ∀ a, r ≤ a → a < r + 5 → h'.2.1 a = h.2.1 a) (e36 : ∀ j, 400 * k ≤ j → j < 400 * k + 400 → m_rd h' 336 j = m_rd h 336 j) (e38 : ∀ j, 48 * k ≤ j → j < 48 * k + 48 → m_rd h' 338 j = m_rd h 338 j) (e39 : m_rd h' 339 k = m_rd h 339 k) (e : ∀ a j, r + 2 ≤ a → a < r + 5 → m_rd h' a j = m_rd h a j) : RulI h' k r := by
  have e2 : m_rd h' (r + 2) = m_rd h (r + 2) := funext fun j => e _ j (by omega) (by omega)
  have e3 : m_rd h' (r + 3) = m_rd h (r + 3) := funext fun j => e _ j (by omega) (by omega)
  have e4 : m_rd h' (r + 4) = m_rd h (r + 4) := funext fun j => e _ j (by omega) (by omega)
  unfold RulI fromR m_kd m_ln at *
  rw [e2, e3, e4, e39, ek r (by omega) (by omega), ek (r + 1) (by omega) (by omega), ek (r + 2) (by omega) (by omega), ek (r + 3) (by omega) (by omega), ek (r + 4) (by omega) (by omega)]
  obtain ⟨a1, a2, a3, a4, a5, a6⟩ := H
  refine ⟨a1, a2, a3, fun i i0 i1 => ?_, a5, fun j j0 j1 => ?_⟩
  · rw [e36 _ (by omega) (by omega)]
    exact a4 i i0 i1
  · rw [e38 _ (by omega) (by omega), e38 _ (by omega) (by omega), e38 _ (by omega) (by omega), e38 _ (by omega) (by omega)]
    exact a6 j j0 j1
theorem WfD.gr {S : Int → Int} {f x n m : Int} (H : WfD S f x n) (l : n ≤ m) : WfD S f x m := by
  obtain ⟨a1, a2, a3, a4, a5, a6⟩ := H
  exact ⟨a1, a2, a3, a4, by omega, a6⟩
theorem DeskI.gr {h h' : MH} (H : DeskI h) (e : ∀ a j, (20 ≤ a ∧ a < 43) ∨ a = 344 ∨ (a = 334 ∧ (j = 21 ∨ j = 22)) → m_rd h' a j = m_rd h a j) (l : m_rd h 334 2 ≤ m_rd h' 334 2) : DeskI h' := by
  have e1 : m_rd h' 344 = m_rd h 344 := funext fun j => e 344 j (by omega)
  obtain ⟨a1, a2⟩ := H
  unfold DeskI
  rw [e1, e 334 21 (by omega), e 334 22 (by omega)]
  exact ⟨a1.cg (fun a j z1 z2 => e a j (by omega)), a2.gr l⟩
theorem ImgI.gr {h h' : MH} (H : ImgI h) (e : ∀ a j, (44 ≤ a ∧ a < 137) ∨ (355 ≤ a ∧ a < 359) → m_rd h' a j = m_rd h a j) (l : m_rd h 334 2 ≤ m_rd h' 334 2) : ImgI h' := by
  intro k k0 k1
  have e1 : (fun i => m_rd h' 355 (167 * k + i)) = (fun i => m_rd h 355 (167 * k + i)) := funext fun j => e 355 _ (by omega)
  rw [e1, e 44 k (by omega), e 358 k (by omega), e 356 k (by omega), e 357 k (by omega)]
  obtain ⟨a1, a2⟩ := H k k0 k1
  refine ⟨a1, fun hk => ?_⟩
  obtain ⟨b1, b2⟩ := a2 hk
  exact ⟨b1.cg (fun a j z1 z2 => e a j (by omega)), b2.gr l⟩
/-- a new rule, as the class and the model have it -/
theorem RulI.new {h : MH} {k r c s : Int} {x : RST} {se te : Int → Int} (k1 : m_kd h r = 105) (k2 : h.2.1 (r + 1) = (2, 60)) (k3 : m_kd h (r + 2) = 1) (k4 : m_kd h (r + 3) = 1) (k5 : m_kd h (r + 4) = 1) (l2 : m_ln h (r + 2) = x.2.1) (l3 : m_ln h (r + 3) = c) (l4 : m_ln h (r + 4) = c) (d2 : ∀ i, 0 ≤ i → i < x.2.1 → m_rd h (r + 2) i = x.2.2.2 i) (d3 : ∀ i, 0 ≤ i → i < c → m_rd h (r + 3) i = se i) (d4 : ∀ i, 0 ≤ i → i < c → m_rd h (r + 4) i = te i) (e39 : m_rd h 339 k = c) (R : Rw h k c se te) (e36 : ∀ i, 0 ≤ i → i < x.2.1 → m_rd h 336 (400 * k + i) = enc (x.2.2.2 i)) (W : CW c x se te) (s4 : x.2.1 ≤ 400) (n6 : x.2.2.1 ≤ 60) : RulI h k r := by
  obtain ⟨⟨w1, w2, w3⟩, w4, w5, w6, w7⟩ := W
  have fr : ∀ j, 0 ≤ j → j < c → fromR h r j = fr0 te j := fun j j0 j1 => by
    unfold fromR fr0
    by_cases z : j = 0
    · rw [if_pos z, if_pos z]
    · rw [if_neg z, if_neg z, d4 _ (by omega) (by omega)]
  have cg : ∀ (m : Nat) (a : Int), 0 ≤ a → a + m ≤ x.2.1 → tyr (m_rd h (r + 2)) m a [] = tyr x.2.2.2 m a [] := fun m a a0 a1 => tyr_cg m a [] (fun i i0 i1 => d2 i (by omega) (by omega))
  refine ⟨⟨k1, k2, k3, k4, k5⟩, ⟨by omega, by omega⟩, ⟨by omega, by omega, by omega, by omega⟩, fun i i0 i1 => ?_, ?_, fun j j0 j1 => ?_⟩
  · rw [l2] at i1
    rw [d2 i i0 i1]
    exact ⟨e36 i i0 i1, w5 i i0 i1⟩
  · rw [l2, npu_cg (g := x.2.2.2) x.2.1.toNat (fun i i0 i1 => d2 i i0 (by omega))]
    omega
  · rw [e39] at j1
    obtain ⟨v1, v2, v3⟩ := w7 j j0 j1
    obtain ⟨q1, q2, q3⟩ := R j j0 j1
    rw [fr j j0 j1, d3 j j0 j1, d4 j j0 j1, l2]
    refine ⟨v1, q1, q2, ?_, ?_⟩
    · rw [cg _ _ (by omega) (by omega)]
      exact v2
    · rcases q3 with ⟨e, t⟩ | ⟨e, t1, t2⟩
      · exact Or.inl ⟨e, t⟩
      · refine Or.inr ⟨e, t1, t2, ?_⟩
        rcases v3 with z | ⟨_, z⟩
        · omega
        · rw [cg _ _ (by omega) (by omega)]
          exact z
theorem c_rule : ∀ h, Inv h → LR h → Wi (GX11_rule h) (fun v h1 => Wi (GX12_rule h1) (fun w h2 => v = w ∧ Inv h2)) := by
  intro h H hL
  obtain ⟨t1, t2, t3, t4⟩ := H.2.1
  obtain ⟨r1, r2, r3, r4, r5, r6⟩ := H.2.2.1
  obtain ⟨n, hn⟩ : ∃ n, n = m_rd h 1 1 := ⟨_, rfl⟩
  obtain ⟨B, hB⟩ : ∃ B : Int → Int, B = fun i => m_rd h 2 i := ⟨_, rfl⟩
  obtain ⟨k, hk⟩ : ∃ k, k = m_rd h 0 4 := ⟨_, rfl⟩
  have b : BB B n := ⟨by omega, by omega, fun i i0 i1 => by rw [hB]; exact ⟨(t4 i i0 (by omega)).1, (t4 i i0 (by omega)).2.1⟩⟩
  have tc : TpC h B n := ⟨hn.symm, fun i i0 i1 => by rw [hB]⟩
  have tm : TpM h B n := ⟨by omega, fun i i0 i1 => by rw [hB]; exact (t4 i i0 (by omega)).2.2⟩
  rw [← hk] at r1 r2 r3 r4 r5 r6
  unfold GX11_rule
  rw [← hk]
  by_cases c : k < 6
  · obtain ⟨x, h1, e1, F1, o1⟩ := rparseC b tc
    obtain ⟨gg, hgg⟩ : ∃ gg, gg = m_rd h 16 := ⟨_, rfl⟩
    obtain ⟨se0, hse⟩ : ∃ gg, gg = m_rd h 17 := ⟨_, rfl⟩
    obtain ⟨te0, hte⟩ : ∃ gg, gg = m_rd h 18 := ⟨_, rfl⟩
    rw [← hgg, ← hse, ← hte] at o1
    have model : ∀ g : MH, TpM g B n → m_rd g 334 2 = k → ∃ y g1, Fr (fun a j => RaU k a j ∨ (a = 334 ∧ j = 11)) g g1 ∧ m_rd g1 334 1 = 0 ∧ EndW g1 k y (rpa B n 13 0 (0, 0, 0, gg) se0 te0) ∧ GX12_rule g = if y = 0 then some (m_w32 ((-2) - m_rd g1 334 9), g1) else some ((m_w32 ((m_rd (m_wr g1 334 2 (m_w32 ((m_rd g1 334 2) + 1))) 334 2) - 1)), (m_wr g1 334 2 (m_w32 ((m_rd g1 334 2) + 1)))) := by
      intro g tg e2
      have F0 : Fr (fun a j => (a = 334 ∧ j = 11) ∨ (a = 339 ∧ j = k)) g (m_wr (m_wr g 334 11 k) 339 k 0) := Fr.wr (Fr.wr Fr.rf (by omega)) (by omega)
      obtain ⟨y, g1, e3, F3, z3, o3⟩ := readsAllU (gg := gg) (se := se0) (te := te0) b (tg.fr F0 (fun a j z => by omega)) (show m_rd (m_wr (m_wr g 334 11 k) 339 k 0) 334 11 = k by rw [rd_a (by decide), rd_eq rfl rfl]) r2 c (rd_eq rfl rfl)
      refine ⟨y, g1, (F0.wk (fun a j z => by unfold RaU Mu2; omega)).tr (F3.wk (fun a j z => Or.inl z)), z3, o3, ?_⟩
      unfold GX12_rule
      simp only [hl]
      rw [e2, if_neg (by omega), rd_eq (show (334 : Int) = 334 from rfl) (show (11 : Int) = 11 from rfl), gd_ib r2 c, gd_nil, e3, bd_some]
    have hL1 : LR h1 := (DX6_parse (xs := fun _ => 0) (L := 0) (d := 0) hL e1).2.1
    have hLA : LR (m_wr h1 1 1 0) := LR.wf (k := 1) hL1 (o_1 hL1) rfl
    have FA : Fr (fun a j => RtF a j ∨ (a = 1 ∧ j = 1)) h (m_wr h1 1 1 0) := Fr.wr (F1.wk (fun a j z => Or.inl z)) (Or.inr ⟨rfl, rfl⟩)
    have zA : m_rd (m_wr h1 1 1 0) 1 1 = 0 := rd_eq rfl rfl
    have A4 : m_rd (m_wr h1 1 1 0) 0 4 = k := by
      rw [FA.rd (by unfold RtF; omega)]
      exact hk.symm
    have q15 : ∀ j, m_rd (m_wr h1 1 1 0) 15 j = m_rd h1 15 j := fun j => rd_a (by decide)
    have q16 : m_rd (m_wr h1 1 1 0) 16 = m_rd h1 16 := funext fun j => rd_a (by decide)
    have q17 : m_rd (m_wr h1 1 1 0) 17 = m_rd h1 17 := funext fun j => rd_a (by decide)
    have q18 : m_rd (m_wr h1 1 1 0) 18 = m_rd h1 18 := funext fun j => rd_a (by decide)
    rw [if_pos c, e1, bd_some, A4]
    generalize m_wr h1 1 1 0 = hA at hLA FA zA A4 q15 q16 q17 q18 ⊢
    generalize rpa B n 13 0 (0, 0, 0, gg) se0 te0 = R at o1 model
    match R, o1 with
    | .inl f, o1 =>
      have x0 : x ≠ 0 := by
        have := o1.1
        have := o1.2
        omega
      rw [if_neg x0]
      refine wi_ret ?_
      obtain ⟨y, g1, F2, z2, o2, e2⟩ := model hA (tm.fr FA (fun a j z => by unfold RtF at z; omega)) (by rw [FA.rd (by unfold RtF; omega)]; exact r1.symm)
      rw [e2, if_pos o2.1]
      refine wi_ret ⟨by rw [o2.2, o1.1], ?_⟩
      have G : Fr (fun a j => (RtF a j ∨ (a = 1 ∧ j = 1)) ∨ (RaU k a j ∨ (a = 334 ∧ j = 11))) h g1 := (FA.wk (fun a j z => Or.inl z)).tr (F2.wk (fun a j z => Or.inr z))
      have z1 : m_rd g1 1 1 = 0 := by
        rw [F2.rd (by unfold RaU Mu2 Mu1 Mu0; omega)]
        exact zA
      refine ⟨H.1.cg G.1 G.2.1, ⟨by rw [z1, z2], by rw [z1]; omega, by rw [z1]; omega, fun i i0 i1 => by rw [z1] at i1; omega⟩, ?_, H.2.2.2.1.cg (fun a j z => G.rd ?_), H.2.2.2.2.1.cg (fun a j z => G.rd ?_), H.2.2.2.2.2.cg (fun a j z => G.rd ?_)⟩
      · have g4 : m_rd g1 0 4 = k := by
          rw [G.rd (by unfold RtF RaU Mu2 Mu1 Mu0; omega)]
          exact hk.symm
        have g2 : m_rd g1 334 2 = k := by
          rw [G.rd (by unfold RtF RaU Mu2 Mu1 Mu0; omega)]
          exact r1.symm
        unfold RulesI
        rw [g4, g2, G.1]
        refine ⟨rfl, r2, r3, r4, r5, fun i i0 i1 => ?_⟩
        obtain ⟨s1, s2⟩ := r6 i i0 i1
        refine ⟨by rw [G.rd (by unfold RtF RaU Mu2 Mu1 Mu0; omega)]; exact s1, s2.cf (fun a _ _ => by rw [G.2.1]) (fun j j0 j1 => G.rd ?_) (fun j j0 j1 => G.rd ?_) (G.rd ?_) (fun a j a0 a1 => G.rd ?_)⟩
        · unfold RtF RaU Mu2 Mu1 Mu0
          omega
        · unfold RtF RaU Mu2 Mu1 Mu0
          omega
        · unfold RtF RaU Mu2 Mu1 Mu0
          omega
        · unfold RtF RaU Mu2 Mu1 Mu0
          omega
      · unfold RdD at z
        unfold RtF RaU Mu2 Mu1 Mu0
        omega
      · unfold RdI at z
        unfold RtF RaU Mu2 Mu1 Mu0
        omega
      · unfold RdP at z
        unfold RtF RaU Mu2 Mu1 Mu0
        omega
    | .inr r, o1 =>
      obtain ⟨x0, u5, u2, u16, u17, u18⟩ := o1
      have pure : CW r.1 r.2.1 r.2.2.1 r.2.2.2 ∧ r.2.1.2.1 ≤ 400 ∧ r.2.1.2.2.1 ≤ 60 := by
        obtain ⟨_, _, _, _, o2, _⟩ := model h tm r1.symm
        exact o2.2.2.2.2
      obtain ⟨W, s4, n6⟩ := pure
      have w1 := W.1
      have v2 : m_rd hA 15 2 = r.2.1.2.1 := by rw [q15, u2]
      have v5 : m_rd hA 15 5 = r.1 := by rw [q15, u5]
      have v16 : m_rd hA 16 = r.2.1.2.2.2 := by rw [q16, u16]
      have v17 : m_rd hA 17 = r.2.2.1 := by rw [q17, u17]
      have v18 : m_rd hA 18 = r.2.2.2 := by rw [q18, u18]
      have cA : (hA.1.1 : Int) = 359 + 5 * k := by
        rw [FA.1]
        exact r4
      obtain ⟨em, D⟩ := mkr_ok hLA (by rw [v2]; omega) (by rw [v2]; omega) (by rw [v5]; omega) (by rw [v5]; omega)
      rw [if_pos x0, gd_ib (by rw [v2]; omega) (by rw [v2]; omega), gd_ib (by rw [v5]; omega) (by rw [v5]; omega), gd_nil]
      simp only [hl]
      rw [gd_ib r2 c, gd_nil]
      generalize mkr hA = hM at D
      have mk : ∀ a, a < (hA.1.1 : Int) → hM.2.1 a = hA.2.1 a := fun a ha => by
        refine Prod.ext ?_ ?_
        · have := D.kd a
          unfold rK at this
          rw [if_neg (by omega), if_neg (by omega), if_neg (by omega)] at this
          exact this
        · have := D.ln a
          unfold rN at this
          rw [if_neg (by omega), if_neg (by omega), if_neg (by omega), if_neg (by omega)] at this
          exact this
      have mr : ∀ a j, a < (hA.1.1 : Int) → m_rd hM a j = m_rd hA a j := fun a j ha => by
        have := D.rd a j
        unfold rM at this
        rw [if_neg (by omega), if_neg (by omega), if_neg (by omega), if_neg (by omega), if_neg (by omega), if_neg (by omega)] at this
        exact this
      have M4 : m_rd (m_wr hM 19 k (hA.1.1 : Int)) 0 4 = k := by
        rw [rd_a (by decide), mr 0 4 (by omega)]
        exact A4
      rw [M4, w32_id (x := k + 1) (by omega) (by omega), rd_eq (show (0 : Int) = 0 from rfl) (show (4 : Int) = 4 from rfl), w32_id (x := k + 1 - 1) (by omega) (by omega)]
      refine wi_ret ?_
      have FN : Fr (fun a j => (a = 19 ∧ j = k) ∨ (a = 0 ∧ j = 4)) hM (m_wr (m_wr hM 19 k (hA.1.1 : Int)) 0 4 (k + 1)) := Fr.wr (Fr.wr Fr.rf (by omega)) (by omega)
      have N4 : m_rd (m_wr (m_wr hM 19 k (hA.1.1 : Int)) 0 4 (k + 1)) 0 4 = k + 1 := rd_eq rfl rfl
      have N19 : m_rd (m_wr (m_wr hM 19 k (hA.1.1 : Int)) 0 4 (k + 1)) 19 k = 359 + 5 * k := by
        rw [rd_a (by decide), rd_eq rfl rfl]
        exact cA
      generalize m_wr (m_wr hM 19 k (hA.1.1 : Int)) 0 4 (k + 1) = hN at FN N4 N19 ⊢
      have old : ∀ a j, a < 359 + 5 * k → ¬ (RtF a j ∨ (a = 1 ∧ j = 1)) → ¬ ((a = 19 ∧ j = k) ∨ (a = 0 ∧ j = 4)) → m_rd hN a j = m_rd h a j := fun a j ha q1 q2 => by
        rw [FN.rd q2, mr a j (by omega), FA.rd q1]
      have tN : TpM hN B n := ⟨by rw [old 334 1 (by omega) (by unfold RtF; omega) (by omega)]; exact tm.1, fun i i0 i1 => by rw [old 335 i (by omega) (by unfold RtF; omega) (by omega)]; exact tm.2 i i0 i1⟩
      obtain ⟨y, g1, F2, z2, o2, e2⟩ := model hN tN (by rw [old 334 2 (by omega) (by unfold RtF; omega) (by omega)]; exact r1.symm)
      obtain ⟨y1, o39, oR, o36, _, _, _⟩ := o2
      have k2 : m_rd g1 334 2 = k := by
        rw [F2.rd (by unfold RaU Mu2 Mu1 Mu0; omega), old 334 2 (by omega) (by unfold RtF; omega) (by omega)]
        exact r1.symm
      rw [e2, if_neg (by omega), k2, w32_id (x := k + 1) (by omega) (by omega), rd_eq (show (334 : Int) = 334 from rfl) (show (2 : Int) = 2 from rfl), w32_id (x := k + 1 - 1) (by omega) (by omega)]
      refine wi_ret ⟨rfl, ?_⟩
      have F3 : Fr (fun a j => a = 334 ∧ j = 2) g1 (m_wr g1 334 2 (k + 1)) := Fr.wr Fr.rf ⟨rfl, rfl⟩
      have K2 : m_rd (m_wr g1 334 2 (k + 1)) 334 2 = k + 1 := rd_eq rfl rfl
      generalize m_wr g1 334 2 (k + 1) = g at F3 K2 ⊢
      have G : Fr (fun a j => RaU k a j ∨ (a = 334 ∧ (j = 11 ∨ j = 2))) hN g := (F2.wk (fun a j z => by
        rcases z with z | z
        · exact Or.inl z
        · exact Or.inr ⟨z.1, Or.inl z.2⟩)).tr (F3.wk (fun a j z => Or.inr ⟨z.1, Or.inr z.2⟩))
      have all : ∀ a j, a < 359 + 5 * k → ¬ (RtF a j ∨ (a = 1 ∧ j = 1)) → ¬ ((a = 19 ∧ j = k) ∨ (a = 0 ∧ j = 4)) → ¬ (RaU k a j ∨ (a = 334 ∧ (j = 11 ∨ j = 2))) → m_rd g a j = m_rd h a j := fun a j ha q1 q2 q3 => by
        rw [G.rd q3, old a j ha q1 q2]
      have kds : ∀ a, a < 359 + 5 * k → g.2.1 a = h.2.1 a := fun a ha => by
        rw [G.2.1, FN.2.1, mk a (by omega), FA.2.1]
      have g11 : (g.1.1 : Int) = 359 + 5 * (k + 1) := by
        rw [G.1, FN.1, D.1]
        omega
      have z11 : m_rd g 1 1 = 0 := by
        rw [G.rd (by unfold RaU Mu2 Mu1 Mu0; omega), FN.rd (by omega), mr 1 1 (by omega)]
        exact zA
      have z34 : m_rd g 334 1 = 0 := by
        rw [F3.rd (by omega)]
        exact z2
      have g04 : m_rd g 0 4 = k + 1 := by
        rw [G.rd (by unfold RaU Mu2 Mu1 Mu0; omega)]
        exact N4
      obtain ⟨kk1, kk2, kk3⟩ := H.1
      refine ⟨⟨by omega, ?_, fun p hp => by rw [kds p (by omega)]; exact kk3 p hp⟩, ⟨by rw [z11, z34], by rw [z11]; omega, by rw [z11]; omega, fun i i0 i1 => by rw [z11] at i1; omega⟩, ?_, H.2.2.2.1.gr (fun a j z => all a j (by omega) (by unfold RtF; omega) (by omega) (by unfold RaU Mu2 Mu1 Mu0; omega)) (by omega), H.2.2.2.2.1.gr (fun a j z => all a j (by omega) (by unfold RtF; omega) (by omega) (by unfold RaU Mu2 Mu1 Mu0; omega)) (by omega), H.2.2.2.2.2.cg (fun a j z => ?_)⟩
      · unfold m_ok at kk2 ⊢
        rw [G.1, FN.1, D.2.2.1, FA.1]
        exact kk2
      · unfold RulesI
        rw [g04, K2]
        refine ⟨rfl, by omega, by omega, g11, ?_, fun i i0 i1 => ?_⟩
        · rw [G.1, FN.1, D.2.1, FA.1]
          omega
        · by_cases ik : i = k
          · rw [ik]
            refine ⟨by rw [G.rd (by unfold RaU Mu2 Mu1 Mu0; omega)]; exact N19, ?_⟩
            have kd' : ∀ a, m_kd g a = rK hA a := fun a => by
              have : m_kd g a = m_kd hM a := by
                unfold m_kd
                rw [G.2.1, FN.2.1]
              rw [this, D.kd]
            have ln' : ∀ a, m_ln g a = rN hA a := fun a => by
              have : m_ln g a = m_ln hM a := by
                unfold m_ln
                rw [G.2.1, FN.2.1]
              rw [this, D.ln]
            have rd' : ∀ a j, 359 ≤ a → 0 ≤ j → m_rd g a j = rM hA a j := fun a j ha hj => by
              rw [G.rd (by unfold RaU Mu2 Mu1 Mu0; omega), FN.rd (by omega), D.rd, if_neg (by omega)]
            refine RulI.new (c := r.1) (x := r.2.1) (se := r.2.2.1) (te := r.2.2.2) (s := 0) ?_ ?_ ?_ ?_ ?_ ?_ ?_ ?_ (fun i i0 i1 => ?_) (fun i i0 i1 => ?_) (fun i i0 i1 => ?_) ?_ ?_ (fun i i0 i1 => ?_) W s4 n6
            · rw [kd']
              unfold rK
              (repeat first | rw [if_pos (by omega)] | rw [if_neg (by omega)])
            · refine Prod.ext ?_ ?_
              · show m_kd g _ = 2
                rw [kd']
                unfold rK
                (repeat first | rw [if_pos (by omega)] | rw [if_neg (by omega)])
              · show m_ln g _ = 60
                rw [ln']
                unfold rN
                (repeat first | rw [if_pos (by omega)] | rw [if_neg (by omega)])
            · rw [kd']
              unfold rK
              (repeat first | rw [if_pos (by omega)] | rw [if_neg (by omega)])
            · rw [kd']
              unfold rK
              (repeat first | rw [if_pos (by omega)] | rw [if_neg (by omega)])
            · rw [kd']
              unfold rK
              (repeat first | rw [if_pos (by omega)] | rw [if_neg (by omega)])
            · rw [ln']
              unfold rN
              (repeat first | rw [if_pos (by omega)] | rw [if_neg (by omega)])
              exact v2
            · rw [ln']
              unfold rN
              (repeat first | rw [if_pos (by omega)] | rw [if_neg (by omega)])
              exact v5
            · rw [ln']
              unfold rN
              (repeat first | rw [if_pos (by omega)] | rw [if_neg (by omega)])
              exact v5
            · rw [rd' _ _ (by omega) i0]
              unfold rM
              rw [v2, v16]
              (repeat first | rw [if_pos (by omega)] | rw [if_neg (by omega)])
            · rw [rd' _ _ (by omega) i0]
              unfold rM
              rw [v5, v17]
              (repeat first | rw [if_pos (by omega)] | rw [if_neg (by omega)])
            · rw [rd' _ _ (by omega) i0]
              unfold rM
              rw [v5, v18]
              (repeat first | rw [if_pos (by omega)] | rw [if_neg (by omega)])
            · rw [F3.rd (by omega)]
              exact o39
            · exact oR.fr F3 (fun a j z w => by omega)
            · rw [F3.rd (by omega)]
              exact o36 i i0 i1
          · obtain ⟨s1, s2⟩ := r6 i i0 (by omega)
            refine ⟨by rw [all 19 i (by omega) (by unfold RtF; omega) (by omega) (by unfold RaU Mu2 Mu1 Mu0; omega)]; exact s1, s2.cf (fun a a0 a1 => kds a (by omega)) (fun j j0 j1 => all _ _ (by omega) (by unfold RtF; omega) (by omega) (by unfold RaU Mu2 Mu1 Mu0; omega)) (fun j j0 j1 => all _ _ (by omega) (by unfold RtF; omega) (by omega) (by unfold RaU Mu2 Mu1 Mu0; omega)) (all _ _ (by omega) (by unfold RtF; omega) (by omega) (by unfold RaU Mu2 Mu1 Mu0; omega)) (fun a j a0 a1 => all _ _ (by omega) (by unfold RtF; omega) (by omega) (by unfold RaU Mu2 Mu1 Mu0; omega))⟩
      · unfold RdP at z
        exact all a j (by omega) (by unfold RtF; omega) (by omega) (by unfold RaU Mu2 Mu1 Mu0; omega)
  · rw [if_neg c]
    refine wi_ret ?_
    unfold GX12_rule
    rw [if_pos (by omega)]
    exact wi_ret ⟨rfl, H⟩
