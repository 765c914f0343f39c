/-! FRAME: the call -/
theorem clear25_L {K : MH → Option MH} : ∀ (m f : Nat) (v : Int) (h : MH), m < f → v + m = 6 → 0 ≤ v → ∃ h', GX10_clear_L25 7 K f v h = K h' ∧ Fr (fun a j => (a = 13 ∨ a = 14) ∧ v ≤ j) h h' ∧ ∀ i, v ≤ i → i < 6 → m_rd h' 13 i = 0 ∧ m_rd h' 14 i = 0 := by
  intro m
  induction m with
  | zero =>
    intro f v h hf hv v0
    obtain ⟨q, rfl⟩ : ∃ q, f = q + 1 := ⟨f - 1, by omega⟩
    conv => enter [1, h', 1, 1]; unfold GX10_clear_L25
    rw [if_neg (by omega)]
    exact ⟨h, rfl, Fr.rf, fun i i0 i1 => by omega⟩
  | succ m ih =>
    intro f v h hf hv v0
    obtain ⟨q, rfl⟩ : ∃ q, f = q + 1 := ⟨f - 1, by omega⟩
    conv => enter [1, h', 1, 1]; unfold GX10_clear_L25
    rw [if_pos (by omega), gd_ib v0 (by omega), gd_nil, gd_ib v0 (by omega), gd_nil, w32_id (x := v + 1) (by omega) (by omega), show (7 : Int) + 6 = 13 from rfl, show (7 : Int) + 7 = 14 from rfl]
    obtain ⟨h', e', F', a'⟩ := ih q (v + 1) (m_wr (m_wr h 13 v 0) 14 v 0) (by omega) (by omega) (by omega)
    refine ⟨h', e', Fr.tr (Fr.wr (Fr.wr Fr.rf (by omega)) (by omega)) (F'.wk (fun a j z => ⟨z.1, by have := z.2; omega⟩)), fun i i0 i1 => ?_⟩
    by_cases c : i = v
    · constructor
      · rw [F'.rd (by omega), rd_ne (by omega), rd_eq rfl c]
      · rw [F'.rd (by omega), rd_eq rfl c]
    · exact a' i (by omega) i1
theorem bz_T {T : Int → Int} (w : TW 0 T) : ∀ k, 10 ≤ k → k < 82 → beg T k = 0 := by
  have z := w.2.1 rfl
  intro k k0 k1
  rw [bg_at, z 4 (by omega) (by omega), z 5 (by omega) (by omega)]
  by_cases x1 : k = 12
  · rw [if_pos x1]
  by_cases x2 : k = 13
  · rw [if_neg x1, if_pos x2]
  rw [if_neg x1, if_neg x2, if_neg (by omega), if_neg (by omega), if_pos (by omega)]
theorem clearC {T : Int → Int} {h : MH} (w : TW 0 T) : ∃ h', GX10_clear 7 h = some h' ∧ Fr (fun a _ => 7 ≤ a ∧ a < 15) h h' ∧ WkR h' 7 (beg T) := by
  have bz := bz_T w
  unfold GX10_clear
  obtain ⟨h1, e1, F1, a1⟩ := clear25_L (K := fun h1 => some h1) 6 FU 0 (m_wr (m_wr (m_wr (m_wr h (7 + 1) 0 0) 7 1 0) 7 5 0) 7 6 0) (by decide) (by decide) (by decide)
  rw [e1]
  refine ⟨h1, rfl, Fr.tr (Fr.wr (Fr.wr (Fr.wr (Fr.wr Fr.rf (by omega)) (by omega)) (by omega)) (by omega)) (F1.wk (fun a j z => by omega)), ?_, ?_, ?_, ⟨?_, fun e x0 x1 => ?_⟩, fun i i0 i1 => ?_, fun i i0 i1 => ?_, fun i i0 i1 => ?_⟩
  · rw [F1.rd (by omega), rd_eq rfl rfl, bz 10 (by omega) (by omega)]
  · rw [F1.rd (by omega), rd_ne (by omega), rd_eq rfl rfl, bz 11 (by omega) (by omega)]
  · rw [F1.rd (by omega), rd_ne (by omega), rd_ne (by omega), rd_eq rfl rfl, bz 12 (by omega) (by omega)]
  · rw [F1.rd (by omega), rd_ne (by omega), rd_ne (by omega), rd_ne (by omega), rd_eq rfl rfl, bz 13 (by omega) (by omega)]
  · rw [bz 13 (by omega) (by omega)] at x1
    omega
  · rw [show (7 : Int) + 6 = 13 from rfl, (a1 i i0 i1).1, bz _ (by omega) (by omega)]
  · rw [show (7 : Int) + 7 = 14 from rfl, (a1 i i0 i1).2, bz _ (by omega) (by omega)]
  · rw [bz 12 (by omega) (by omega)] at i1
    omega
theorem parseC {B T : Int → Int} {n : Int} {h : MH} (b : BB B n) (t : TpC h B n) (w : TW 0 T) : ∃ x h', GX3_parse h = some (x, h') ∧ Fr RdF h h' ∧ EndC h' x (fpa B n 41 0 0 T) := by
  unfold GX3_parse GX9_rewind
  rw [bv_some]
  have F0 : Fr F123 h (m_wr (m_wr h 1 2 0) 1 3 0) := Fr.wr (Fr.wr Fr.rf ⟨rfl, Or.inl rfl⟩) ⟨rfl, Or.inr rfl⟩
  obtain ⟨h1, e1, F1, W1⟩ := clearC (h := m_wr (m_wr h 1 2 0) 1 3 0) w
  rw [e1, bv_some]
  have C1 : CS h1 B n 0 := by
    refine ⟨(t.f123 F0).fr F1 (fun a j z => by omega), ?_, ?_, Int.le_refl _, b.1⟩
    · rw [F1.rd (by omega), rd_ne (by omega), rd_eq rfl rfl]
    · rw [F1.rd (by omega), rd_eq rfl rfl]
  obtain ⟨x, h2, e2, F2, o2⟩ := parC_L b 40 FU 0 0 T h1 (by decide) (by decide) (by decide) ⟨C1, fun z => absurd z (by decide), W1, w⟩
  rw [e2]
  exact ⟨x, h2, rfl, (F0.wk (fun _ _ z => z.rdf)).tr ((F1.wk (fun a j z => Or.inr (by omega))).tr F2), o2⟩
theorem frame8_L {K : MH → Option (Int × MH)} : ∀ (m f : Nat) (v : Int) (h : MH), m < f → v + m = 136 → 0 ≤ v → ∃ h', GX12_frame_L8 K f v h = K h' ∧ Fr (fun a j => a = 340 ∧ v ≤ j ∧ j < 136) h h' ∧ ∀ i, v ≤ i → i < 136 → m_rd h' 340 i = 0 := by
  intro m
  induction m with
  | zero =>
    intro f v h hf hv v0
    obtain ⟨q, rfl⟩ : ∃ q, f = q + 1 := ⟨f - 1, by omega⟩
    conv => enter [1, h', 1, 1]; unfold GX12_frame_L8
    rw [if_neg (by omega)]
    exact ⟨h, rfl, Fr.rf, fun i i0 i1 => by omega⟩
  | succ m ih =>
    intro f v h hf hv v0
    obtain ⟨q, rfl⟩ : ∃ q, f = q + 1 := ⟨f - 1, by omega⟩
    conv => enter [1, h', 1, 1]; unfold GX12_frame_L8
    rw [if_pos (by omega), gd_ib v0 (by omega), gd_nil, w32_id (x := v + 1) (by omega) (by omega)]
    obtain ⟨h', e', F', a'⟩ := ih q (v + 1) (m_wr h 340 v 0) (by omega) (by omega) (by omega)
    refine ⟨h', e', Fr.tr (Fr.wr Fr.rf (by omega)) (F'.wk (fun a j z => by omega)), fun i i0 i1 => ?_⟩
    by_cases c : i = v
    · rw [F'.rd (by omega), rd_eq rfl c]
    · exact a' i (by omega) i1
theorem frame45_L {K : MH → Option (Int × MH)} : ∀ (m f : Nat) (v : Int) (h : MH), m < f → v + m = 167 → 0 ≤ v → ∃ h', GX12_frame_L45 K f v h = K h' ∧ Fr (fun a j => a = 344 ∧ v ≤ j ∧ j < 167) h h' ∧ ∀ i, v ≤ i → i < 167 → m_rd h' 344 i = if i < 136 then m_rd h 340 i else 0 := by
  intro m
  induction m with
  | zero =>
    intro f v h hf hv v0
    obtain ⟨q, rfl⟩ : ∃ q, f = q + 1 := ⟨f - 1, by omega⟩
    conv => enter [1, h', 1, 1]; unfold GX12_frame_L45
    rw [if_neg (by omega)]
    exact ⟨h, rfl, Fr.rf, fun i i0 i1 => by omega⟩
  | succ m ih =>
    intro f v h hf hv v0
    obtain ⟨q, rfl⟩ : ∃ q, f = q + 1 := ⟨f - 1, by omega⟩
    conv => enter [1, h', 1, 1]; unfold GX12_frame_L45
    have st : ∀ u, u = (if v < 136 then m_rd h 340 v else 0) → ∃ h', GX12_frame_L45 K q (v + 1) (m_wr h 344 v u) = K h' ∧ Fr (fun a j => a = 344 ∧ v ≤ j ∧ j < 167) h h' ∧ ∀ i, v ≤ i → i < 167 → m_rd h' 344 i = if i < 136 then m_rd h 340 i else 0 := fun u hu => by
      obtain ⟨h', e', F', a'⟩ := ih q (v + 1) (m_wr h 344 v u) (by omega) (by omega) (by omega)
      refine ⟨h', e', Fr.tr (Fr.wr Fr.rf (by omega)) (F'.wk (fun a j z => by omega)), fun i i0 i1 => ?_⟩
      by_cases c : i = v
      · rw [F'.rd (by omega), rd_eq rfl c, c]
        exact hu
      · rw [a' i (by omega) i1, rd_a (by decide)]
    rw [if_pos (by omega), w32_id (x := v + 1) (by omega) (by omega)]
    by_cases c : v < 136
    · rw [if_pos c, gd_ib v0 (by omega), gd_nil, gd_ib v0 (by omega), gd_nil]
      exact st _ (if_pos c).symm
    · rw [if_neg c, gd_ib v0 (by omega), gd_nil]
      exact st _ (if_neg c).symm
theorem c_frame : Call GX11_frame GX12_frame := by
  intro h H
  obtain ⟨t1, t2, t3, t4⟩ := H.2.1
  obtain ⟨n, hn⟩ : ∃ n, n = m_rd h 1 1 := ⟨_, rfl⟩
  obtain ⟨B, hB⟩ : ∃ B : Int → Int, B = fun i => m_rd h 2 i := ⟨_, rfl⟩
  obtain ⟨T, hT⟩ : ∃ T : Int → Int, T = fun k => if 0 ≤ k ∧ k < 136 then 0 else m_rd h 340 k := ⟨_, rfl⟩
  have b : BB B n := ⟨by omega, by omega, fun i i0 i1 => by rw [hB]; exact ⟨(t4 i i0 (by omega)).1, (t4 i i0 (by omega)).2.1⟩⟩
  have tc : TpC h B n := ⟨hn.symm, fun i i0 i1 => by rw [hB]⟩
  have tm : TpM h B n := ⟨by omega, fun i i0 i1 => by rw [hB]; exact (t4 i i0 (by omega)).2.2⟩
  have Tz : ∀ k, 0 ≤ k → k < 136 → T k = 0 := fun k k0 k1 => by
    rw [hT]
    exact if_pos ⟨k0, k1⟩
  have w : TW 0 T := ⟨by rw [Tz 4 (by omega) (by omega), Tz 5 (by omega) (by omega)]; omega, fun _ => Tz, fun z => absurd z (by decide)⟩
  have b1 := b.2.1
  obtain ⟨x, h1, e1, F1, o1⟩ := parseC b tc w
  unfold GX11_frame
  refine wi_be e1 ?_
  /- the model's run, from any heap that the class left -/
  have model : ∀ g : MH, Fr (fun a j => RdF a j ∨ (a = 1 ∧ j = 1) ∨ (20 ≤ a ∧ a < 43) ∨ (a = 0 ∧ j = 10)) h g → ∃ y g1, Fr (fun a j => RaM a j ∨ (a = 334 ∧ j = 11)) g g1 ∧ m_rd g1 334 1 = 0 ∧ EndM g1 y (fpa B n 41 0 0 T) ∧ GX12_frame g = if y = 0 then some (m_w32 ((-2) - m_rd g1 334 9), g1) else GX12_frame_L45 (fun h4 => bv (GX12_begins h4) (fun h5 => some ((m_rd (m_wr h5 334 25 0) 344 4), (m_wr h5 334 25 0)))) FU 0 g1 := by
    intro g F
    have tg : TpM g B n := tm.fr F (fun a j z => by unfold RdF at z; omega)
    unfold GX12_frame
    obtain ⟨g1, e1, F1, a1⟩ := frame8_L (K := fun h1 => bd (GX12_readsAll h1) (fun x3 h2 => if x3 = 0 then some ((m_w32 ((-2) - (m_rd h2 334 9))), h2) else GX12_frame_L45 (fun h4 => bv (GX12_begins h4) (fun h5 => some ((m_rd (m_wr h5 334 25 0) 344 4), (m_wr h5 334 25 0)))) FU 0 h2)) 136 FU 0 (m_wr g 334 11 6) (by decide) (by decide) (by decide)
    have Fw : Fr (fun a j => a = 334 ∧ j = 11) g (m_wr g 334 11 6) := Fr.wr Fr.rf ⟨rfl, rfl⟩
    have t1 : TpM g1 B n := (tg.fr Fw (fun a j z => by omega)).fr F1 (fun a j z => by omega)
    have eT : m_rd g1 340 = T := by
      funext k
      rw [hT]
      by_cases c : 0 ≤ k ∧ k < 136
      · rw [a1 k c.1 c.2]
        exact (if_pos c).symm
      · rw [F1.rd (by omega), Fw.rd (by omega), F.rd (by unfold RdF; omega)]
        exact (if_neg c).symm
    obtain ⟨y, g2, e2, F2, z2, o2⟩ := readsAllM b t1 (by rw [F1.rd (by omega), rd_eq rfl rfl]) eT w
    refine ⟨y, g2, (Fw.wk (fun a j z => Or.inr z)).tr ((F1.wk (fun a j z => Or.inl (Or.inl (Or.inr z.1)))).tr (F2.wk (fun a j z => Or.inl z))), z2, o2, ?_⟩
    rw [e1, e2, bd_some]
  generalize fpa B n 41 0 0 T = R at o1 model
  match R, o1 with
  | .inl f, o1 =>
    have x0 : x ≠ 0 := by
      have := o1.1
      have := o1.2
      omega
    refine wi_in x0 (wi_ret ?_)
    obtain ⟨y, g1, F2, z2, o2, e2⟩ := model (m_wr h1 1 1 0) (Fr.wr (F1.wk (fun a j z => Or.inl z)) (Or.inr (Or.inl ⟨rfl, rfl⟩)))
    rw [e2, if_pos o2.1]
    refine wi_ret ⟨by rw [o2.2, o1.1], ?_⟩
    have G : Fr (fun a j => RdF a j ∨ (a = 1 ∧ j = 1) ∨ RaM a j ∨ (a = 334 ∧ j = 11)) h g1 := Fr.tr (Fr.wr (F1.wk (fun a j z => Or.inl z)) (Or.inr (Or.inl ⟨rfl, rfl⟩))) (F2.wk (fun a j z => Or.inr (Or.inr z)))
    have z1 : m_rd g1 1 1 = 0 := by
      rw [F2.rd (by unfold RaM FdT; omega), rd_eq rfl rfl]
    refine ⟨H.1.cg G.1 G.2.1, ⟨by rw [z1, z2], by rw [z1]; omega, by rw [z1]; omega, fun i i0 i1 => by rw [z1] at i1; omega⟩, H.2.2.1.cg G.1 G.2.1 (fun a j z => G.rd ?_), H.2.2.2.1.cg (fun a j z => G.rd ?_), H.2.2.2.2.1.cg (fun a j z => G.rd ?_), H.2.2.2.2.2.cg (fun a j z => G.rd ?_)⟩
    · unfold RdR at z
      unfold RdF RaM FdT
      omega
    · unfold RdD at z
      unfold RdF RaM FdT
      omega
    · unfold RdI at z
      unfold RdF RaM FdT
      omega
    · unfold RdP at z
      unfold RdF RaM FdT
      omega
  | .inr r, o1 =>
    obtain ⟨x0, R1, W1, cc, c0, tw⟩ := o1
    obtain ⟨u0, ub, Wb⟩ := tw.b c0
    have wb := tw.1
    refine wi_ip x0 ?_
    unfold GX2_take
    have F1' : Fr (fun a j => RdF a j ∨ (a = 1 ∧ j = 1) ∨ (20 ≤ a ∧ a < 43) ∨ (a = 0 ∧ j = 10)) h (m_wr h1 1 1 0) := Fr.wr (F1.wk (fun a j z => Or.inl z)) (Or.inr (Or.inl ⟨rfl, rfl⟩))
    have z1 : m_rd (m_wr h1 1 1 0) 1 1 = 0 := rd_eq rfl rfl
    have R1' : ShR (m_wr h1 1 1 0) 4 r.2 := R1.cg (fun a j a0 a1 => rd_ne (by omega))
    have W1' : WkR (m_wr h1 1 1 0) 7 (beg r.2) := W1.cg (fun a j a0 a1 => rd_ne (by omega))
    have y3 : m_rd (m_wr h1 1 1 0) 20 3 = m_rd h 20 3 ∧ m_rd (m_wr h1 1 1 0) 20 4 = m_rd h 20 4 := ⟨by rw [rd_ne (by omega), F1.rd (by unfold RdF; omega)], by rw [rd_ne (by omega), F1.rd (by unfold RdF; omega)]⟩
    generalize m_wr h1 1 1 0 = k0 at F1' z1 R1' W1' y3 ⊢
    obtain ⟨k1, e1, G1, A1⟩ := copy8 (t := 20 + 1) (a := 4) (by omega) R1'
    obtain ⟨k2, e2, G2, A2⟩ := copy10 (t := 20 + 4) (a := 7) (by omega) (W1'.cg (fun a j a0 a1 => G1.rd (by omega))) (by rw [beg_12]; omega) (by rw [beg_13]; omega)
    obtain ⟨k3, e3, G3, A3⟩ := copy10 (t := 20 + 12) (a := 7) (by omega) ((W1'.cg (fun a j a0 a1 => G1.rd (by omega))).cg (fun a j a0 a1 => G2.rd (by omega))) (by rw [beg_12]; omega) (by rw [beg_13]; omega)
    rw [e1, bv_some, e2, bv_some, e3, bv_some, bv_some]
    obtain ⟨k4, hk4⟩ : ∃ k4, k4 = m_wr (m_wr k3 20 5 0) 0 10 0 := ⟨_, rfl⟩
    have G4 : Fr (fun a j => (a = 20 ∧ j = 5) ∨ (a = 0 ∧ j = 10)) k3 k4 := by
      rw [hk4]
      exact Fr.wr (Fr.wr Fr.rf (by omega)) (by omega)
    have GG : Fr (fun a j => RdF a j ∨ (a = 1 ∧ j = 1) ∨ (20 ≤ a ∧ a < 43) ∨ (a = 0 ∧ j = 10)) h k4 := F1'.tr ((G1.wk (fun a j z => by omega)).tr ((G2.wk (fun a j z => by omega)).tr ((G3.wk (fun a j z => by omega)).tr (G4.wk (fun a j z => by omega)))))
    have B1 : ShR k4 21 r.2 := ((A1.cg (fun a j a0 a1 => G2.rd (by omega))).cg (fun a j a0 a1 => G3.rd (by omega))).cg (fun a j a0 a1 => G4.rd (by omega))
    have B2 : WkR k4 24 (beg r.2) := (A2.cg (fun a j a0 a1 => G3.rd (by omega))).cg (fun a j a0 a1 => G4.rd (by omega))
    have B3 : WkR k4 32 (beg r.2) := A3.cg (fun a j a0 a1 => G4.rd (by omega))
    have q1 : m_rd k4 1 1 = 0 := by
      rw [G4.rd (by omega), G3.rd (by omega), G2.rd (by omega), G1.rd (by omega)]
      exact z1
    have q2 : m_rd k4 0 10 = 0 := by
      rw [hk4]
      exact rd_eq rfl rfl
    have q3 : m_rd k4 20 5 = 0 := by
      rw [hk4, rd_ne (by omega), rd_eq rfl rfl]
    have q4 : m_rd k4 20 3 = m_rd h 20 3 ∧ m_rd k4 20 4 = m_rd h 20 4 := by
      constructor
      · rw [G4.rd (by omega), G3.rd (by omega), G2.rd (by omega), G1.rd (by omega)]
        exact y3.1
      · rw [G4.rd (by omega), G3.rd (by omega), G2.rd (by omega), G1.rd (by omega)]
        exact y3.2
    rw [← hk4]
    refine wi_ret ?_
    obtain ⟨y, g1, F2, z2, o2, em⟩ := model k4 GG
    rw [em, if_neg (by have := o2.1; omega)]
    obtain ⟨g2, e5, F5, a5⟩ := frame45_L (K := fun h4 => bv (GX12_begins h4) (fun h5 => some ((m_rd (m_wr h5 334 25 0) 344 4), (m_wr h5 334 25 0)))) 167 FU 0 g1 (by decide) (by decide) (by decide)
    obtain ⟨S0, hS0⟩ : ∃ S0, S0 = m_rd g2 344 := ⟨_, rfl⟩
    have s0 : ∀ k, 0 ≤ k → k < 136 → S0 k = r.2 k := fun k k0 k1 => by
      rw [hS0, a5 k k0 (by omega), if_pos k1, o2.2]
    have s1 : S0 166 = 0 := by
      rw [hS0, a5 166 (by omega) (by omega), if_neg (by omega)]
    have s4 := s0 4 (by omega) (by omega)
    have s5 := s0 5 (by omega) (by omega)
    obtain ⟨g3, e6, F6, a6⟩ := begins_ok (h := g2) (S := S0) hS0.symm (by omega) (by omega) (by omega) (by omega)
    rw [e5, e6, bv_some]
    obtain ⟨g4, hg4⟩ : ∃ g4, g4 = m_wr g3 334 25 0 := ⟨_, rfl⟩
    have F7 : Fr (fun a j => a = 334 ∧ j = 25) g3 g4 := by
      rw [hg4]
      exact Fr.wr Fr.rf ⟨rfl, rfl⟩
    have a7 : m_rd g4 344 = beg S0 := by
      rw [← a6]
      exact funext (fun j => F7.rd (by omega))
    have bk : ∀ k, k < 10 ∨ 82 ≤ k → beg S0 k = S0 k := fun k z => beg_k (by omega) (by omega) z
    have bk' : ∀ k, k < 10 ∨ 82 ≤ k → beg r.2 k = r.2 k := fun k z => beg_k (by omega) (by omega) z
    have bb : beg (beg S0) = beg S0 := beg_out (by omega) (by omega) (fun k z => bk k (by omega))
    have br : ∀ k, 0 ≤ k → k < 136 → beg S0 k = beg r.2 k := fun k k0 k1 => by
      rw [bg_at, bg_at (X := r.2), s4, s5]
      by_cases c1 : k = 12
      · rw [if_pos c1, if_pos c1]
      rw [if_neg c1, if_neg c1]
      by_cases c2 : k = 13
      · rw [if_pos c2, if_pos c2]
      rw [if_neg c2, if_neg c2]
      by_cases c3 : 26 ≤ k ∧ k < 26 + r.2 5
      · rw [if_pos c3, if_pos c3, s0 _ (by omega) (by omega)]
      rw [if_neg c3, if_neg c3]
      by_cases c4 : 46 ≤ k ∧ k < 46 + 3 * r.2 4
      · rw [if_pos c4, if_pos c4, s0 _ (by omega) (by omega)]
      rw [if_neg c4, if_neg c4, s0 k k0 k1]
    have H0 : Wf 0 (beg S0) := Wb.sg1 (by rw [bk' 0 (by omega)]; exact u0) (fun k z => br k (by omega) (by omega))
    have GM : Fr (fun a j => RaM a j ∨ (a = 334 ∧ (j = 11 ∨ j = 25)) ∨ a = 344) k4 g4 := (F2.wk (fun a j z => by
      rcases z with z | z
      · exact Or.inl z
      · exact Or.inr (Or.inl ⟨z.1, Or.inl z.2⟩))).tr ((F5.wk (fun a j z => by omega)).tr ((F6.wk (fun a j z => by omega)).tr (F7.wk (fun a j z => by omega))))
    have HH : Fr (fun a j => (RdF a j ∨ (a = 1 ∧ j = 1) ∨ (20 ≤ a ∧ a < 43) ∨ (a = 0 ∧ j = 10)) ∨ RaM a j ∨ (a = 334 ∧ (j = 11 ∨ j = 25)) ∨ a = 344) h g4 := (GG.wk (fun a j z => Or.inl z)).tr (GM.wk (fun a j z => Or.inr z))
    have z4 : m_rd g4 334 1 = 0 := by
      rw [F7.rd (by omega), F6.rd (by omega), F5.rd (by omega)]
      exact z2
    have z5 : m_rd g4 1 1 = 0 := by
      rw [GM.rd (by unfold RaM FdT; omega)]
      exact q1
    have z6 : m_rd g4 334 25 = 0 := by
      rw [hg4]
      exact rd_eq rfl rfl
    have z7 : m_rd g4 0 10 = 0 := by
      rw [GM.rd (by unfold RaM FdT; omega)]
      exact q2
    have z8 : m_rd g4 334 21 = m_rd h 334 21 ∧ m_rd g4 334 22 = m_rd h 334 22 ∧ m_rd g4 334 2 = m_rd h 334 2 ∧ m_rd g4 0 9 = m_rd h 0 9 := by
      refine ⟨?_, ?_, ?_, ?_⟩
      · rw [HH.rd (by unfold RaM FdT RdF; omega)]
      · rw [HH.rd (by unfold RaM FdT RdF; omega)]
      · rw [HH.rd (by unfold RaM FdT RdF; omega)]
      · rw [HH.rd (by unfold RaM FdT RdF; omega)]
    rw [← hg4]
    refine wi_ret ⟨?_, H.1.cg HH.1 HH.2.1, ⟨by rw [z5, z4], by rw [z5]; omega, by rw [z5]; omega, fun i i0 i1 => by rw [z5] at i1; omega⟩, H.2.2.1.cg HH.1 HH.2.1 (fun a j z => HH.rd ?_), ?_, H.2.2.2.2.1.cg (fun a j z => HH.rd ?_), ?_⟩
    · have y := B3.2.2.2.1.1
      rw [beg_13] at y
      rw [a7, bk 4 (by omega), s4]
      exact y
    · unfold RdR at z
      unfold RdF RaM FdT
      omega
    · obtain ⟨⟨d1, d2, d3, d4, d5, d6, d7⟩, v1, v2, v3, v4, v5, v6, v7⟩ := H.2.2.2.1
      unfold DeskI
      rw [a7, z8.1, z8.2.1, z8.2.2.1]
      have s166 : beg S0 166 = 0 := by
        rw [bk 166 (by omega)]
        exact s1
      refine ⟨⟨?_, ?_, ?_, ?_, ?_, ?_, fun i i0 i1 => ?_⟩, ?_, ?_, ⟨?_, ?_, fun i i0 i1 => ?_⟩, v4, v5, v6, v7.1, ?_, ?_⟩
      · exact ShR.sg (B1.cg (fun a j a0 a1 => GM.rd (by unfold RaM FdT; omega))) (fun k z => by rw [bk k (by omega), s0 k (by omega) (by omega)])
      · rw [bb]
        exact WkR.sg (B2.cg (fun a j a0 a1 => GM.rd (by unfold RaM FdT; omega))) (by rw [beg_12]; omega) (by rw [beg_13]; omega) (fun k k0 k1 => br k (by omega) (by omega))
      · exact WkR.sg (B3.cg (fun a j a0 a1 => GM.rd (by unfold RaM FdT; omega))) (by rw [beg_12]; omega) (by rw [beg_13]; omega) (fun k k0 k1 => br k (by omega) (by omega))
      · rw [GM.rd (by unfold RaM FdT; omega), q4.1]
        exact d4
      · rw [GM.rd (by unfold RaM FdT; omega), q4.2]
        exact d5
      · rw [GM.rd (by unfold RaM FdT; omega), q3, s166]
      · rw [s166] at i1
        omega
      · exact ⟨H0.1, H0.2.1, H0.2.2.1, H0.2.2.2.1, H0.2.2.2.2.1, by have := H0.2.2.2.2.2; omega⟩
      · rw [bb]
        exact H0
      · rw [s166]
        omega
      · rw [s166]
        omega
      · rw [s166] at i1
        omega
      · rw [bk 4 (by omega), s4]
        omega
      · rw [bk 5 (by omega), s5]
        omega
    · unfold RdI at z
      unfold RdF RaM FdT
      omega
    · obtain ⟨p1, p2, p3, p4, p5, p6⟩ := H.2.2.2.2.2
      refine ⟨by rw [z7, z6], by rw [z7]; omega, by rw [z7]; omega, by rw [z8.2.2.2]; exact p4, by rw [z8.2.2.2]; exact p5, fun j j0 j1 => by rw [z7] at j1; omega⟩
