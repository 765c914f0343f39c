/-! turn, sorted, tied, enough -/
theorem RemC.pre {h0 h h1 : MH} (H : RemC h h1) (e : ∀ a j, FrC a j ∨ a = 344 → m_rd h a j = m_rd h0 a j) : RemC h0 h1 := by
  unfold FrC at e
  obtain ⟨a1, a2, a3, a4⟩ := H
  have e9 := e 0 9 (by omega)
  have e10 := e 0 10 (by omega)
  have e344 : m_rd h 344 = m_rd h0 344 := funext fun j => e 344 j (by omega)
  rw [e9] at a1 a3 a4
  rw [e10] at a2
  rw [e344] at a3
  refine ⟨a1, a2, a3, fun a j z1 z2 z3 => ?_⟩
  rw [a4 a j z1 z2 z3, e a j (by omega)]
theorem c_turn : Call GX11_turn GX12_turn := by
  intro h H
  obtain ⟨⟨d1, d2, d3, d4, d5, d6, d7⟩, w1, w2, w3, w4, w5, w6, w7⟩ := H.2.2.2.1
  obtain ⟨p1, p2, p3, p4, p5, p6⟩ := H.2.2.2.2.2
  have k1 := H.nw.1
  have t10 := w1.2.2.2.2.2
  unfold GX11_turn
  refine wi_be (hasFrame_ok H) ?_
  by_cases f1 : m_rd h 344 0 = 1
  · refine wi_in (by rw [t01]; exact fun z => z f1) ?_
    by_cases c : m_rd h 344 10 = 999
    · refine wi_in (by omega) (wi_ret ?_)
      unfold GX12_turn
      exact wi_be isFrame_ok (wi_in (by rw [t01]; exact fun z => z f1) (wi_ip c (wi_ret ⟨rfl, H⟩)))
    · obtain ⟨h3, r, o, e3, F3, R3, rf, Rw, RwM, _⟩ := runNow H
      obtain ⟨h6, e6, F6, R6, T6⟩ := step_ok R3 w1 (by omega) Rw
      have F6' : Fr RunC h h6 := F3.tr (StC.run F6)
      have s6 : m_rd h6 344 = m_rd h 344 := funext fun j => F6'.rd (by unfold RunC; omega)
      have y9 : m_rd h6 0 9 = m_rd h 0 9 := F6'.rd (by unfold RunC; omega)
      have y10 : m_rd h6 0 10 = m_rd h 0 10 := F6'.rd (by unfold RunC; omega)
      have D3 : WkR h6 32 (m_rd h 344) := WkR.cg (h := h) d3 (fun a j z1 z2 => F6'.rd (by unfold RunC; omega))
      obtain ⟨h8, e8, F8, C8⟩ := rem_ok (h := h6) (by rw [s6]; exact D3) (by rw [s6]; exact w1) (by omega) (by omega) (by omega) (by omega)
      have pw' := pa_wf (o := o) w1
      have W' : Wf 999 (paS o (m_rd h 344)) := by
        obtain ⟨x1, x2, x3, x4, x5, x6⟩ := pw'
        have y := pa_10 (o := o) (S := m_rd h 344)
        exact ⟨x1, x2, x3, x4, x5, by omega⟩
      have R8 : WkR h8 314 (paS o (m_rd h 344)) := R6.2.1.cg (fun a j z1 z2 => F8.rd (by unfold FrC; omega))
      obtain ⟨h9, e9, F9, R9⟩ := copy10 (t := 32) (a := 314) (by omega) R8 W'.2.2.1.1.2 W'.2.1.1.2
      have s9 : m_rd h9 344 = m_rd h 344 := by
        rw [← s6]
        exact funext fun j => by rw [F9.rd (by omega), F8.rd (by unfold FrC; omega)]
      have u9 : m_rd h9 334 25 = m_rd h 334 25 := by
        rw [F9.rd (by omega), F8.rd (by unfold FrC; omega), F6'.rd (by unfold RunC; omega)]
      obtain ⟨g3, x3, G3, M3⟩ := keepsAct_ok (h := h9) (by omega) (by omega)
      have s3 : m_rd g3 344 = m_rd h 344 := by
        rw [← s9]
        exact funext fun j => G3.rd (by unfold FrM; omega)
      have K3 : KeepR h g3 := ((RunC.kr F6').tr (F8.kr (fun a j z => by unfold FrC at z; unfold RdR; omega))).tr ((F9.kr (fun a j z => by unfold RdR; omega)).tr (G3.kr (fun a j z => by unfold FrM at z; unfold RdR; omega)))
      obtain ⟨g4, x4, G4, s4, T4⟩ := passes_ok (o := o) (k := m_rd h 334 21) s3 w1 (by omega) (RwM.kr K3) (by rw [G3.rd (by unfold FrM; omega), F9.rd (by omega), F8.rd (by unfold FrC; omega), F6'.rd (by unfold RunC; omega)])
      have I4 : Inv g4 := by
        refine act_inv H ?_ ?_ ?_ ?_ ?_
        · refine ((((F6'.wk (fun a j z => ?_)).tr (F8.wk (fun a j z => ?_))).tr (F9.wk (fun a j z => ?_))).tr (G3.wk (fun a j z => ?_))).tr (G4.wk (fun a j z => ?_))
          · exact Or.inr (Or.inr (Or.inr (Or.inr z.scr)))
          · exact Or.inl z
          · exact Or.inr (Or.inr (Or.inl z))
          · exact Or.inr (Or.inl z)
          · unfold StM at z
            unfold FrA FrM Scr
            omega
        · refine (C8.pre (fun a j z => ?_)).cg p4 p5 (fun a j z => ?_)
          · unfold FrC at z
            exact F6'.rd (by unfold RunC; omega)
          · unfold FrC at z
            rw [G4.rd (by unfold StM; omega), G3.rd (by unfold FrM; omega), F9.rd (by omega)]
        · refine (M3.pre (fun a j z => ?_)).cg (fun a j z => ?_)
          · unfold FrM at z
            rw [F9.rd (by omega), F8.rd (by unfold FrC; omega), F6'.rd (by unfold RunC; omega)]
          · unfold FrM at z
            exact G4.rd (by unfold StM; omega)
        · rw [s4]
          refine R9.cg (fun a j z1 z2 => ?_)
          rw [G4.rd (by unfold StM; omega), G3.rd (by unfold FrM; omega)]
        · rw [s4]
          exact W'
      have cbo := cho_b (o := o) (S := m_rd h 344) w1.2.2.1.1.1
      have pc : paC o (m_rd h 344) = -1 ∨ 0 ≤ paC o (m_rd h 344) := by
        unfold paC
        by_cases q : cho o (m_rd h 344) < 0
        · rw [if_pos q]
          exact Or.inl rfl
        · rw [if_neg q]
          exact Or.inr (w1.2.2.1.2.2 _ (by omega) (cbo.2 (by omega))).1
      refine wi_ip (by omega) (wi_bw e3 (wi_be (rf h3 F3) (wi_be e6 (wi_bw e8 (wi_bw e9 ?_)))))
      have mod : ∀ v, v = (if paC o (m_rd h 344) < 0 then -2 else paC o (m_rd h 344)) → Wi (GX12_turn h9) (fun w h2 => v = w ∧ Inv h2) := by
        intro v hv
        unfold GX12_turn
        refine wi_be isFrame_ok (wi_in (by rw [t01, s9]; exact fun z => z f1) (wi_in (by rw [s9]; exact c) (wi_bw x3 (wi_be x4 ?_))))
        by_cases q : paC o (m_rd h 344) < 0
        · refine wi_ip q (wi_ret ⟨?_, I4⟩)
          rw [hv, if_pos q]
        · refine wi_in q (wi_ret ⟨?_, I4⟩)
          rw [hv, if_neg q]
      by_cases q : paC o (m_rd h 344) = -1
      · refine wi_ip q (wi_ret (mod _ ?_))
        rw [if_pos (by omega)]
      · refine wi_in q (wi_ret (mod _ ?_))
        rw [if_neg (by omega)]
  · refine wi_ip (by rw [t01]; exact f1) (wi_ret ?_)
    unfold GX12_turn
    exact wi_be isFrame_ok (wi_ip (by rw [t01]; exact f1) (wi_ret ⟨rfl, H⟩))
/-! sorted -/
def soF (o : WF) : Nat → (Int → Int) → Int
  | 0, _ => -2
  | m + 1, S => if paS o S 12 = 0 then S 10 else soF o m (paS o S)
theorem soC_L {r : Int} {o : WF} : ∀ (m f : Nat) (v B : Int) (S : Int → Int) (h : MH), m < f → v + m = 200 → 0 ≤ v → RuR h S → Wf B S → B + m ≤ 100000 → RwC h r o → ∃ h', GX7_turnOfSorting_L2 r (fun w1 h2 => some (w1, h2)) (fun h3 => some ((-2), h3)) f v h = some (soF o m S, h') ∧ Fr StC h h' := by
  intro m
  induction m with
  | zero =>
    intro f v B S h hf hv v0 R H hB Rw
    obtain ⟨q, rfl⟩ : ∃ q, f = q + 1 := ⟨f - 1, by omega⟩
    conv => enter [1, h', 1, 1]; unfold GX7_turnOfSorting_L2
    rw [if_neg (by omega)]
    exact ⟨h, rfl, Fr.rf⟩
  | succ m ih =>
    intro f v B S h hf hv v0 R H hB Rw
    obtain ⟨q, rfl⟩ : ∃ q, f = q + 1 := ⟨f - 1, by omega⟩
    conv => enter [1, h', 1, 1]; unfold GX7_turnOfSorting_L2
    obtain ⟨h1, e1, F1, R1, T1⟩ := step_ok R H (by omega) Rw
    rw [if_pos (by omega), e1, bd_some, R1.2.1.2.2.1, R.2.1.1, w32_id (x := v + 1) (by omega) (by omega)]
    by_cases c : paS o S 12 = 0
    · rw [if_pos c, show soF o (m + 1) S = S 10 from if_pos c]
      exact ⟨h1, rfl, F1⟩
    · rw [if_neg c, show soF o (m + 1) S = soF o m (paS o S) from if_neg c]
      obtain ⟨h', e', F'⟩ := ih q (v + 1) (B + 1) (paS o S) h1 (by omega) (by omega) (by omega) R1 (pa_wf H) (by omega) (Rw.kr (StC.kr F1))
      exact ⟨h', e', F1.tr F'⟩
theorem soM_e {a v : Int} {K : Int → MH → Option (Int × MH)} {f : Nat} {h : MH} (a0 : 0 ≤ a) : GX12_sorted_L18 K (f + 1) a v h = K a h := by
  conv => lhs; unfold GX12_sorted_L18
  rw [if_neg (show ¬ a < 0 by omega)]
  split <;> rfl
theorem soM_L {k : Int} {o : WF} {K : Int → MH → Option (Int × MH)} : ∀ (m f : Nat) (v B : Int) (S : Int → Int) (h : MH), m + 1 < f → v + m = 200 → 0 ≤ v → m_rd h 344 = S → Wf B S → B + m ≤ 100000 → RwM h k o → m_rd h 334 21 = k → ∃ h', GX12_sorted_L18 K f (-2) v h = K (soF o m S) h' ∧ Fr StM h h' := by
  intro m
  induction m with
  | zero =>
    intro f v B S h hf hv v0 sg H hB Rw hk
    obtain ⟨q, rfl⟩ : ∃ q, f = q + 1 := ⟨f - 1, by omega⟩
    conv => enter [1, h', 1, 1]; unfold GX12_sorted_L18
    rw [if_neg (by omega)]
    exact ⟨h, rfl, Fr.rf⟩
  | succ m ih =>
    intro f v B S h hf hv v0 sg H hB Rw hk
    obtain ⟨q, rfl⟩ : ∃ q, f = q + 1 := ⟨f - 1, by omega⟩
    have t := H.2.2.2
    conv => enter [1, h', 1, 1]; unfold GX12_sorted_L18
    obtain ⟨h1, e1, F1, s1, T1⟩ := passes_ok sg H (by omega) Rw hk
    rw [if_pos (by omega), if_pos (by omega), e1, bd_some, s1, pa_10, w32_id (x := v + 1) (by omega) (by omega), w32_id (x := S 10 + 1 - 1) (by omega) (by omega), show S 10 + 1 - 1 = S 10 by omega]
    by_cases c : paS o S 12 = 0
    · obtain ⟨q', rfl⟩ : ∃ q', q = q' + 1 := ⟨q - 1, by omega⟩
      rw [if_pos c, show soF o (m + 1) S = S 10 from if_pos c, soM_e (by omega)]
      exact ⟨h1, rfl, F1⟩
    · rw [if_neg c, show soF o (m + 1) S = soF o m (paS o S) from if_neg c]
      obtain ⟨h', e', F'⟩ := ih q (v + 1) (B + 1) (paS o S) h1 (by omega) (by omega) (by omega) s1 (pa_wf H) (by omega) (Rw.kr (StM.kr F1)) (by rw [F1.rd (by unfold StM; omega)]; exact hk)
      exact ⟨h', e', F1.tr F'⟩
theorem c_sorted : Call GX11_sorted GX12_sorted := by
  intro h H
  obtain ⟨⟨d1, d2, d3, d4, d5, d6, d7⟩, w1, w2, w3, w4, w5, w6, w7⟩ := H.2.2.2.1
  unfold GX11_sorted
  refine wi_be (hasFrame_ok H) ?_
  by_cases f1 : m_rd h 344 0 = 1
  · refine wi_in (by rw [t01]; exact fun z => z f1) ?_
    obtain ⟨h3, r, o, e3, F3, R3, rf, Rw, RwM, _⟩ := runNow H
    obtain ⟨h9, e9, F9⟩ := soC_L (r := r) (o := o) 200 FU 0 999 (m_rd h 344) h3 (by unfold FU; omega) (by omega) (by omega) R3 w1 (by omega) Rw
    have F9' : Fr RunC h h9 := F3.tr (StC.run F9)
    have s9 : m_rd h9 344 = m_rd h 344 := funext fun j => F9'.rd (by unfold RunC; omega)
    refine wi_bw e3 (wi_be (rf h3 F3) (wi_be (show GX7_turnOfSorting r h3 = _ from e9) (wi_ret ?_)))
    obtain ⟨g2, x2, G2, kp⟩ := keeps_ok (h := h9)
    have s2 : m_rd g2 344 = m_rd h 344 := by
      rw [← s9]
      exact funext fun j => G2.rd (by omega)
    unfold GX12_sorted
    refine wi_be isFrame_ok (wi_in (by rw [t01, s9]; exact fun z => z f1) (wi_bw x2 ?_))
    obtain ⟨g3, x3, G3⟩ := soM_L (k := m_rd h 334 21) (o := o) (K := fun w4 h5 => bv (GX12_laysBack h5) (fun h6 => some (w4, h6))) 200 FU 0 999 (m_rd h 344) g2 (by unfold FU; omega) (by omega) (by omega) s2 w1 (by omega) (RwM.kr ((RunC.kr F9').tr (G2.kr (fun a j z => by unfold RdR; omega)))) (by rw [G2.rd (by omega), F9'.rd (by unfold RunC; omega)])
    obtain ⟨g4, x4, G4, s4⟩ := laysBack_ok (h := g3) (S := m_rd h 344) (fun k k0 k1 => by rw [G3.rd (by unfold StM; omega), kp k k0 k1, s9]) (fun j z => by rw [G3.rd (by unfold StM; omega), s2])
    refine wi_rw x3 (wi_bw x4 (wi_ret ⟨rfl, ask_fin H F9' G2 kp G3 G4 s4⟩))
  · refine wi_ip (by rw [t01]; exact f1) (wi_ret ?_)
    unfold GX12_sorted
    exact wi_be isFrame_ok (wi_ip (by rw [t01]; exact f1) (wi_ret ⟨rfl, H⟩))
/-! tied -/
def tiF (o : WF) (t : Int) : Nat → (Int → Int) → Int
  | 0, _ => -2
  | m + 1, S => if paT o S = t then S 10 else tiF o t m (paS o S)
theorem tiF_0 {o : WF} {t : Int} (t0 : 0 ≤ t) : ∀ (m : Nat) (S : Int → Int), S 12 = 0 → tiF o t m S = -2 := by
  intro m
  induction m with
  | zero =>
    intro S _
    rfl
  | succ m ih =>
    intro S n
    obtain ⟨p1, p2, p3⟩ := pa_0 (o := o) n
    rw [show tiF o t (m + 1) S = tiF o t m (paS o S) from if_neg (by omega)]
    refine ih _ ?_
    rw [p1, up_k (by omega)]
    exact n
theorem tiF_b {o : WF} {t : Int} : ∀ (m : Nat) (B : Int) (S : Int → Int), Wf B S → tiF o t m S = -2 ∨ 0 ≤ tiF o t m S := by
  intro m
  induction m with
  | zero =>
    intro B S _
    exact Or.inl rfl
  | succ m ih =>
    intro B S H
    have q := H.2.2.2
    by_cases c : paT o S = t
    · rw [show tiF o t (m + 1) S = S 10 from if_pos c]
      omega
    · rw [show tiF o t (m + 1) S = tiF o t m (paS o S) from if_neg c]
      exact ih _ _ (pa_wf H)
theorem tiC_L {r t n : Int} {o : WF} (t0 : 0 ≤ t) : ∀ (m f : Nat) (v B : Int) (S : Int → Int) (h : MH), m < f → v + m = n → 0 ≤ v → n ≤ 1000 → RuR h S → Wf B S → B + m ≤ 100000 → RwC h r o → ∃ h', GX7_turnOfTying_L3 r t n (fun w1 h2 => some (w1, h2)) (fun h3 => some ((-2), h3)) f v h = some (tiF o t m S, h') ∧ Fr StC h h' := by
  intro m
  induction m with
  | zero =>
    intro f v B S h hf hv v0 hn R H hB Rw
    obtain ⟨q, rfl⟩ : ∃ q, f = q + 1 := ⟨f - 1, by omega⟩
    conv => enter [1, h', 1, 1]; unfold GX7_turnOfTying_L3
    rw [if_neg (by omega)]
    exact ⟨h, rfl, Fr.rf⟩
  | succ m ih =>
    intro f v B S h hf hv v0 hn R H hB Rw
    obtain ⟨q, rfl⟩ : ∃ q, f = q + 1 := ⟨f - 1, by omega⟩
    have n12 := H.2.2.1.1
    conv => enter [1, h', 1, 1]; unfold GX7_turnOfTying_L3
    rw [if_pos (by omega), R.2.1.2.2.1]
    by_cases c0 : 0 < S 12
    · obtain ⟨h1, e1, F1, R1, T1⟩ := step_ok R H (by omega) Rw
      rw [if_pos c0, e1, bd_some, T1, R.2.1.1, w32_id (x := v + 1) (by omega) (by omega)]
      by_cases c : paT o S = t
      · rw [if_pos c, show tiF o t (m + 1) S = S 10 from if_pos c]
        exact ⟨h1, rfl, F1⟩
      · rw [if_neg c, show tiF o t (m + 1) S = tiF o t m (paS o S) from if_neg c]
        obtain ⟨h', e', F'⟩ := ih q (v + 1) (B + 1) (paS o S) h1 (by omega) (by omega) (by omega) hn R1 (pa_wf H) (by omega) (Rw.kr (StC.kr F1))
        exact ⟨h', e', F1.tr F'⟩
    · rw [if_neg c0, tiF_0 t0 (m + 1) S (by omega)]
      exact ⟨h, rfl, Fr.rf⟩
theorem tiM_e {u a v : Int} {K : Int → MH → Option (Int × MH)} {f : Nat} {h : MH} (a0 : 0 ≤ a) : GX12_tied_L19 u K (f + 1) a v h = K a h := by
  conv => lhs; unfold GX12_tied_L19
  rw [if_neg (show ¬ a < 0 by omega)]
  split <;> rfl
theorem tiM_L {k t : Int} {o : WF} {K : Int → MH → Option (Int × MH)} : ∀ (m f : Nat) (v B : Int) (S : Int → Int) (h : MH), m + 1 < f → v + m = 200 → 0 ≤ v → m_rd h 344 = S → Wf B S → B + m ≤ 100000 → RwM h k o → m_rd h 334 21 = k → ∃ h', GX12_tied_L19 t K f (-2) v h = K (tiF o t m S) h' ∧ Fr StM h h' := by
  intro m
  induction m with
  | zero =>
    intro f v B S h hf hv v0 sg H hB Rw hk
    obtain ⟨q, rfl⟩ : ∃ q, f = q + 1 := ⟨f - 1, by omega⟩
    conv => enter [1, h', 1, 1]; unfold GX12_tied_L19
    rw [if_neg (by omega)]
    exact ⟨h, rfl, Fr.rf⟩
  | succ m ih =>
    intro f v B S h hf hv v0 sg H hB Rw hk
    obtain ⟨q, rfl⟩ : ∃ q, f = q + 1 := ⟨f - 1, by omega⟩
    have tt := H.2.2.2
    conv => enter [1, h', 1, 1]; unfold GX12_tied_L19
    obtain ⟨h1, e1, F1, s1, T1⟩ := passes_ok sg H (by omega) Rw hk
    rw [if_pos (by omega), if_pos (by omega), e1, bd_some, T1, s1, pa_10, w32_id (x := v + 1) (by omega) (by omega), w32_id (x := S 10 + 1 - 1) (by omega) (by omega), show S 10 + 1 - 1 = S 10 by omega]
    by_cases c : paT o S = t
    · obtain ⟨q', rfl⟩ : ∃ q', q = q' + 1 := ⟨q - 1, by omega⟩
      rw [if_pos c, show tiF o t (m + 1) S = S 10 from if_pos c, tiM_e (by omega)]
      exact ⟨h1, rfl, F1⟩
    · rw [if_neg c, show tiF o t (m + 1) S = tiF o t m (paS o S) from if_neg c]
      obtain ⟨h', e', F'⟩ := ih q (v + 1) (B + 1) (paS o S) h1 (by omega) (by omega) (by omega) s1 (pa_wf H) (by omega) (Rw.kr (StM.kr F1)) (by rw [F1.rd (by unfold StM; omega)]; exact hk)
      exact ⟨h', e', F1.tr F'⟩
theorem c_tied (t : Int) : Call (GX11_tied t) (GX12_tied t) := by
  intro h H
  obtain ⟨⟨d1, d2, d3, d4, d5, d6, d7⟩, w1, w2, w3, w4, w5, w6, w7⟩ := H.2.2.2.1
  unfold GX11_tied
  refine wi_be (hasHole_ok (t := 21) d1) ?_
  by_cases c : 0 ≤ t ∧ t < m_rd h 344 3
  · refine wi_in (by rw [t01]; exact fun z => z c) ?_
    obtain ⟨h3, r, o, e3, F3, R3, rf, Rw, RwM, _⟩ := runNow H
    obtain ⟨h9, e9, F9⟩ := tiC_L (r := r) (t := t) (n := 200) (o := o) c.1 200 FU 0 999 (m_rd h 344) h3 (by unfold FU; omega) (by omega) (by omega) (by omega) R3 w1 (by omega) Rw
    have F9' : Fr RunC h h9 := F3.tr (StC.run F9)
    have s9 : m_rd h9 344 = m_rd h 344 := funext fun j => F9'.rd (by unfold RunC; omega)
    refine wi_bw e3 (wi_be (rf h3 F3) (wi_be (show GX7_turnOfTying r t 200 h3 = _ from e9) (wi_ret ?_)))
    obtain ⟨g2, x2, G2, kp⟩ := keeps_ok (h := h9)
    have s2 : m_rd g2 344 = m_rd h 344 := by
      rw [← s9]
      exact funext fun j => G2.rd (by omega)
    unfold GX12_tied
    refine wi_be isHole_ok (wi_in (by rw [t01, s9]; exact fun z => z c) (wi_bw x2 ?_))
    obtain ⟨g3, x3, G3⟩ := tiM_L (k := m_rd h 334 21) (t := t) (o := o) (K := fun w4 h5 => bv (GX12_laysBack h5) (fun h6 => some (w4, h6))) 200 FU 0 999 (m_rd h 344) g2 (by unfold FU; omega) (by omega) (by omega) s2 w1 (by omega) (RwM.kr ((RunC.kr F9').tr (G2.kr (fun a j z => by unfold RdR; omega)))) (by rw [G2.rd (by omega), F9'.rd (by unfold RunC; omega)])
    obtain ⟨g4, x4, G4, s4⟩ := laysBack_ok (h := g3) (S := m_rd h 344) (fun k k0 k1 => by rw [G3.rd (by unfold StM; omega), kp k k0 k1, s9]) (fun j z => by rw [G3.rd (by unfold StM; omega), s2])
    refine wi_rw x3 (wi_bw x4 (wi_ret ⟨rfl, ask_fin H F9' G2 kp G3 G4 s4⟩))
  · refine wi_ip (by rw [t01]; exact c) (wi_ret ?_)
    unfold GX12_tied
    exact wi_be isHole_ok (wi_ip (by rw [t01]; exact c) (wi_ret ⟨rfl, H⟩))
/-! enough -/
theorem isTied_L {k t n : Int} {o : WF} {K : Int → MH → Option (Int × MH)} : ∀ (m f : Nat) (x v B : Int) (S : Int → Int) (h : MH), m < f → v + m = n → 0 ≤ v → n ≤ 1000 → (x = 0 ∨ x = 1) → m_rd h 344 = S → Wf B S → B + m ≤ 100000 → RwM h k o → m_rd h 334 21 = k → ∃ h', GX12_isTiedIn_L5 t n K f x v h = K (if x = 1 ∨ tiF o t m S ≠ -2 then 1 else 0) h' ∧ Fr StM h h' := by
  intro m
  induction m with
  | zero =>
    intro f x v B S h hf hv v0 hn hx sg H hB Rw hk
    obtain ⟨q, rfl⟩ : ∃ q, f = q + 1 := ⟨f - 1, by omega⟩
    conv => enter [1, h', 1, 1]; unfold GX12_isTiedIn_L5
    rw [if_neg (by omega)]
    refine ⟨h, ?_, Fr.rf⟩
    congr 1
    rcases hx with rfl | rfl
    · rw [if_neg (fun z => z.elim (by decide) (fun y => y rfl))]
    · rw [if_pos (Or.inl rfl)]
  | succ m ih =>
    intro f x v B S h hf hv v0 hn hx sg H hB Rw hk
    obtain ⟨q, rfl⟩ : ∃ q, f = q + 1 := ⟨f - 1, by omega⟩
    have tt := H.2.2.2
    conv => enter [1, h', 1, 1]; unfold GX12_isTiedIn_L5
    obtain ⟨h1, e1, F1, s1, T1⟩ := passes_ok sg H (by omega) Rw hk
    rw [if_pos (by omega), e1, bd_some, T1, w32_id (x := v + 1) (by omega) (by omega)]
    have nx : ∀ y, (y = 0 ∨ y = 1) → ((y = 1 ∨ tiF o t m (paS o S) ≠ -2) ↔ (x = 1 ∨ tiF o t (m + 1) S ≠ -2)) → ∃ h', GX12_isTiedIn_L5 t n K q y (v + 1) h1 = K (if x = 1 ∨ tiF o t (m + 1) S ≠ -2 then 1 else 0) h' ∧ Fr StM h h' := by
      intro y hy iff
      obtain ⟨h', e', F'⟩ := ih q y (v + 1) (B + 1) (paS o S) h1 (by omega) (by omega) (by omega) hn hy s1 (pa_wf H) (by omega) (Rw.kr (StM.kr F1)) (by rw [F1.rd (by unfold StM; omega)]; exact hk)
      refine ⟨h', ?_, F1.tr F'⟩
      rw [e']
      congr 1
      by_cases z : x = 1 ∨ tiF o t (m + 1) S ≠ -2
      · rw [if_pos z, if_pos (iff.2 z)]
      · rw [if_neg z, if_neg (fun y => z (iff.1 y))]
    by_cases c0 : x = 0
    · rw [if_pos c0]
      by_cases c : paT o S = t
      · rw [if_pos c]
        refine nx 1 (Or.inr rfl) ⟨fun _ => Or.inr ?_, fun _ => Or.inl rfl⟩
        rw [show tiF o t (m + 1) S = S 10 from if_pos c]
        omega
      · rw [if_neg c]
        refine nx 0 (Or.inl rfl) ?_
        rw [show tiF o t (m + 1) S = tiF o t m (paS o S) from if_neg c]
        omega
    · rw [if_neg c0]
      exact nx 1 (Or.inr rfl) ⟨fun _ => Or.inl (by omega), fun _ => Or.inl rfl⟩
/-- a row with another room -/
theorem room_wf {B t v : Int} {S : Int → Int} (H : Wf B S) (v0 : 1 ≤ v) (v1 : v ≤ 20) (t0 : 0 ≤ t) (t1 : t < 6) (f1 : S 0 = 1) : Wf B (ups S (82 + t) v) := by
  obtain ⟨F, E, W, x1, x2, x3⟩ := id H
  have k' : ∀ k, k < 82 → ups S (82 + t) v k = S k := fun k z => up_k (by omega)
  refine ⟨?_, E.sg (fun k z => k' k (by omega)), W.sg (fun k z => k' k (by omega)), by rw [k' 11 (by omega)]; exact x1, by rw [k' 11 (by omega), k' 10 (by omega)]; exact x2, by rw [k' 10 (by omega)]; exact x3⟩
  rcases F with ⟨a1, a2, a3, a4, a5, a6, a7, a8⟩ | q
  · unfold WfF
    rw [k' 0 (by omega), k' 1 (by omega), k' 2 (by omega), k' 3 (by omega)]
    refine Or.inl ⟨a1, a2, a3, a4, a5, a6, a7, fun i i0 i1 => ?_⟩
    by_cases c : i = t
    · rw [c, up_eq rfl]
      exact ⟨v0, v1⟩
    · rw [up_k (by omega)]
      exact a8 i i0 i1
  · omega
def enF (o : WF) (S : Int → Int) (t : Int) (n : Nat) : Nat → Int → Int
  | 0, _ => -2
  | m + 1, v => if tiF o t n (ups S (82 + t) v) = -2 then v else enF o S t n m (v + 1)
theorem enC_L {t n B r : Int} {o : WF} {S : Int → Int} {h0 : MH} (H : Wf B S) (hB : B ≤ 1000) (f1 : S 0 = 1) (t0 : 0 ≤ t) (t1 : t < S 3) (n0 : 0 ≤ n) (n1 : n ≤ 1000) (D : WkR h0 32 S) (Rw : RwC h0 r o) (rf : ∀ g, Fr RunC h0 g → GX11_ruleInForce g = some (r, g)) : ∀ (m f : Nat) (v : Int) (h : MH), m < f → v + m = 21 → 1 ≤ v → Fr RunC h0 h → ChR h 311 315 S → h.2.1 321 = (1, 6) → (∃ x, ShR h 311 (ups S (82 + t) x)) → ∃ h', GX11_enough_L33 t n (fun w4 h5 => some (w4, h5)) (fun h6 => some ((-2), h6)) f v h = some (enF o S t n.toNat m v, h') ∧ Fr RunC h0 h' := by
  have fw := frw H.1 f1
  have n12 := H.2.2.1.1
  have n13 := H.2.1.1
  intro m
  induction m with
  | zero =>
    intro f v h hf hv v0 F C K1 Sh
    obtain ⟨q, rfl⟩ : ∃ q, f = q + 1 := ⟨f - 1, by omega⟩
    conv => enter [1, h', 1, 1]; unfold GX11_enough_L33
    rw [if_pos (by omega)]
    exact ⟨h, rfl, F⟩
  | succ m ih =>
    intro f v h hf hv v0 F C K1 Sh
    obtain ⟨q, rfl⟩ : ∃ q, f = q + 1 := ⟨f - 1, by omega⟩
    obtain ⟨x, Sh⟩ := Sh
    conv => enter [1, h', 1, 1]; unfold GX11_enough_L33
    obtain ⟨h1, e1, F1, R1⟩ := copy10 (t := 314) (a := 32) (by omega) (D.cg (h' := h) (fun a j z1 z2 => F.rd (by unfold RunC; omega))) n12.2 n13.2
    have Fh : Fr RunC h0 (m_wr h1 313 t v) := (F.tr (F1.wk (fun a j z => by unfold RunC; omega))).wr (by unfold RunC; omega)
    rw [if_neg (by omega), e1, bv_some, gd_ib (by omega) (by omega), gd_nil, rf _ Fh, bd_some, w32_id (x := v + 1) (by omega) (by omega)]
    have Wv' := room_wf (v := v) H (by omega) (by omega) t0 (by omega) f1
    have k' : ∀ k, k < 82 → ups S (82 + t) v k = S k := fun k z => up_k (by omega)
    have Sh2 : ShR (m_wr h1 313 t v) 311 (ups S (82 + t) v) := by
      obtain ⟨y1, y2, y3, y4, y5, y6⟩ := Sh.cg (h' := h1) (fun a j z1 z2 => F1.rd (by omega))
      have cdx : cod (ups S (82 + t) x) = cod (ups S (82 + t) v) := cod_sg (by rw [up_k (by omega), up_k (by omega)]) (by rw [up_k (by omega), up_k (by omega)]) (by rw [up_k (by omega), up_k (by omega)])
      have u : ∀ k, k < 82 → ups S (82 + t) x k = ups S (82 + t) v k := fun k z => by rw [up_k (by omega), up_k (by omega)]
      refine ⟨?_, ?_, ?_, ?_, fun i i0 i1 => ?_, fun i i0 i1 => ?_⟩
      · rw [← u 1 (by omega)]
        simp (disch := omega) only [w32_id, rd_eq, rd_ne, cp_in, cp_out, lc_lt, lc_gt, lc_eq]
        exact y1
      · rw [← u 2 (by omega)]
        simp (disch := omega) only [w32_id, rd_eq, rd_ne, cp_in, cp_out, lc_lt, lc_gt, lc_eq]
        exact y2
      · rw [← u 3 (by omega)]
        simp (disch := omega) only [w32_id, rd_eq, rd_ne, cp_in, cp_out, lc_lt, lc_gt, lc_eq]
        exact y3
      · rw [← cdx]
        simp (disch := omega) only [w32_id, rd_eq, rd_ne, cp_in, cp_out, lc_lt, lc_gt, lc_eq]
        exact y4
      · rw [← u 0 (by omega), ← u 1 (by omega)]
        simp (disch := omega) only [w32_id, rd_eq, rd_ne, cp_in, cp_out, lc_lt, lc_gt, lc_eq]
        exact y5 i i0 i1
      · by_cases c : i = t
        · rw [c, up_eq rfl]
          simp (disch := omega) only [w32_id, rd_eq, rd_ne, cp_in, cp_out, lc_lt, lc_gt, lc_eq]
        · rw [up_k (by omega)]
          simp (disch := omega) only [w32_id, rd_eq, rd_ne, cp_in, cp_out, lc_lt, lc_gt, lc_eq]
          have := y6 i i0 i1
          rw [up_k (by omega)] at this
          exact this
    have C2 : ChR (m_wr h1 313 t v) 311 315 (ups S (82 + t) v) := by
      have Fx : Fr (fun a _ => 311 ≤ a ∧ a < 322) h (m_wr h1 313 t v) := (F1.wk (fun a j z => by omega)).wr (by omega)
      exact (C.cg Fx (fun a j z => by omega)).sg n13.2 (k' 0 (by omega)) (k' 1 (by omega)) (k' 2 (by omega)) (k' 13 (by omega)) (fun i i0 i1 => ⟨k' _ (by omega), k' _ (by omega)⟩)
    have R2 : WkR (m_wr h1 313 t v) 314 (ups S (82 + t) v) := (R1.cg (h' := m_wr h1 313 t v) (fun a j z1 z2 => by simp (disch := omega) only [w32_id, rd_eq, rd_ne, cp_in, cp_out, lc_lt, lc_gt, lc_eq])).sg n12.2 n13.2 (fun k z1 z2 => k' k z2)
    have RR : RuR (m_wr h1 313 t v) (ups S (82 + t) v) := ⟨Sh2, R2, C2, by show h1.2.1 321 = (1, 6); rw [F1.2.1]; exact K1⟩
    obtain ⟨h4, e4, F4⟩ := tiC_L (r := r) (t := t) (n := n) (o := o) t0 n.toNat FU 0 B _ _ (by unfold FU; omega) (by omega) (by omega) n1 RR Wv' (by omega) (Rw.kr (RunC.kr Fh))
    rw [show GX7_turnOfTying r t n (m_wr h1 313 t v) = _ from e4, bd_some]
    have F4' : Fr RunC h0 h4 := Fh.tr (StC.run F4)
    by_cases c : tiF o t n.toNat (ups S (82 + t) v) = -2
    · rw [if_pos c, show enF o S t n.toNat (m + 1) v = v from if_pos c]
      exact ⟨h4, rfl, F4'⟩
    · rw [if_neg c, show enF o S t n.toNat (m + 1) v = enF o S t n.toNat m (v + 1) from if_neg c]
      refine ih q (v + 1) h4 (by omega) (by omega) (by omega) F4' ?_ ?_ ⟨v, Sh2.cg (fun a j z1 z2 => F4.rd (by unfold StC; omega))⟩
      · exact (C2.cg F4 (fun a j z => by unfold StC at z; omega)).sg (by rw [k' 13 (by omega)]; exact n13.2) (k' 0 (by omega)).symm (k' 1 (by omega)).symm (k' 2 (by omega)).symm (k' 13 (by omega)).symm (fun i i0 i1 => by rw [k' 13 (by omega)] at i1; exact ⟨(k' _ (by omega)).symm, (k' _ (by omega)).symm⟩)
      · rw [F4.2.1]
        show h1.2.1 321 = (1, 6)
        rw [F1.2.1]
        exact K1
theorem enM_e {u1 u2 u3 a v : Int} {K : Int → MH → Option (Int × MH)} {f : Nat} {h : MH} (a0 : 0 ≤ a) : GX12_enough_L43 u1 u2 u3 K (f + 1) a v h = K a h := by
  conv => lhs; unfold GX12_enough_L43
  rw [if_neg (show ¬ a < 0 by omega)]
  split <;> rfl
theorem enM_L {t n B k u : Int} {o : WF} {S : Int → Int} {h0 : MH} {K : Int → MH → Option (Int × MH)} (H : Wf B S) (hB : B ≤ 1000) (f1 : S 0 = 1) (t0 : 0 ≤ t) (t1 : t < S 3) (n0 : 0 ≤ n) (n1 : n ≤ 1000) (Rw : RwM h0 k o) (hk : m_rd h0 334 21 = k) (kp : ∀ i, 0 ≤ i → i < 72 → m_rd h0 350 i = S (10 + i)) : ∀ (m f : Nat) (v : Int) (h : MH), m + 1 < f → v + m = 21 → 1 ≤ v → Fr (fun a j => StM a j ∨ (a = 344 ∧ j = 82 + t)) h0 h → (∃ x, m_rd h 344 = ups S (82 + t) x) → ∃ h', GX12_enough_L43 t n u K f (-2) v h = K (enF o S t n.toNat m v) h' ∧ Fr (fun a j => StM a j ∨ (a = 344 ∧ j = 82 + t)) h0 h' ∧ ∃ x, m_rd h' 344 = ups S (82 + t) x := by
  have fw := frw H.1 f1
  intro m
  induction m with
  | zero =>
    intro f v h hf hv v0 F sg
    obtain ⟨q, rfl⟩ : ∃ q, f = q + 1 := ⟨f - 1, by omega⟩
    conv => enter [1, h', 1, 1]; unfold GX12_enough_L43
    rw [if_pos (by omega)]
    exact ⟨h, rfl, F, sg⟩
  | succ m ih =>
    intro f v h hf hv v0 F sg
    obtain ⟨q, rfl⟩ : ∃ q, f = q + 1 := ⟨f - 1, by omega⟩
    obtain ⟨x, sg⟩ := sg
    conv => enter [1, h', 1, 1]; unfold GX12_enough_L43
    rw [if_neg (by omega), if_pos (by omega), w32_id (x := 82 + t) (by omega) (by omega), gd_ib (by omega) (by omega), gd_nil, w32_id (x := v + 1) (by omega) (by omega)]
    have sv : m_rd (m_wr h 344 (82 + t) v) 344 = ups S (82 + t) v := by
      rw [rd_fn, sg]
      funext i
      unfold ups
      by_cases c : i = 82 + t
      · rw [if_pos c, if_pos c]
      · rw [if_neg c, if_neg c, if_neg c]
    have Fv : Fr (fun a j => StM a j ∨ (a = 344 ∧ j = 82 + t)) h0 (m_wr h 344 (82 + t) v) := F.wr (Or.inr ⟨rfl, rfl⟩)
    have Kv : KeepR h0 (m_wr h 344 (82 + t) v) := Fv.kr (fun a j z => by unfold StM at z; unfold RdR; omega)
    have Wv' := room_wf (v := v) H (by omega) (by omega) t0 (by omega) f1
    obtain ⟨h2, e2, F2⟩ := isTied_L (k := k) (t := t) (n := n) (o := o) (K := fun w1 h2 => bv (GX12_laysBack h2) (fun h3 => gd [GT w1] (some (w1, h3)))) n.toNat FU 0 0 B _ _ (by unfold FU; omega) (by omega) (by omega) n1 (Or.inl rfl) sv Wv' (by omega) (Rw.kr Kv) (by rw [Fv.rd (by unfold StM; omega)]; exact hk)
    have F2' := Fv.tr (F2.wk (fun a j z => Or.inl z))
    obtain ⟨h3, e3, F3, s3⟩ := laysBack_ok (h := h2) (S := ups S (82 + t) v) (fun i i0 i1 => by rw [F2'.rd (by unfold StM; omega), kp i i0 i1, up_k (by omega)]) (fun j z => by rw [F2.rd (by unfold StM; omega), sv])
    have e4 : GX12_isTiedIn t n (m_wr h 344 (82 + t) v) = some (if (0 : Int) = 1 ∨ tiF o t n.toNat (ups S (82 + t) v) ≠ -2 then 1 else 0, h3) := by
      unfold GX12_isTiedIn
      rw [e2, e3, bv_some, gd_cons (by unfold GT; split <;> simp), gd_nil]
    have F3' := F2'.tr (F3.wk (fun a j z => Or.inl (by unfold StM; omega)))
    rw [e4, bd_some]
    by_cases c : tiF o t n.toNat (ups S (82 + t) v) = -2
    · obtain ⟨q', rfl⟩ : ∃ q', q = q' + 1 := ⟨q - 1, by omega⟩
      rw [if_pos (by rw [t01]; exact fun z => z.elim (by decide) (fun y => y c)), show enF o S t n.toNat (m + 1) v = v from if_pos c, enM_e (by omega)]
      exact ⟨h3, rfl, F3', v, s3⟩
    · rw [if_neg (by rw [t01]; exact fun z => z (Or.inr c)), show enF o S t n.toNat (m + 1) v = enF o S t n.toNat m (v + 1) from if_neg c]
      exact ih q (v + 1) h3 (by omega) (by omega) (by omega) F3' ⟨v, s3⟩
theorem c_enough (t n : Int) : Call (GX11_enough t n) (GX12_enough t n) := by
  intro h H
  obtain ⟨⟨d1, d2, d3, d4, d5, d6, d7⟩, w1, w2, w3, w4, w5, w6, w7⟩ := H.2.2.2.1
  have fb := w1.1.b
  unfold GX11_enough
  refine wi_be (hasHole_ok (t := 21) d1) ?_
  by_cases c : 0 ≤ t ∧ t < m_rd h 344 3
  · refine wi_in (by rw [t01]; exact fun z => z c) ?_
    by_cases n0 : n < 1
    · refine wi_ip n0 (wi_ret ?_)
      unfold GX12_enough
      exact wi_be isHole_ok (wi_in (by rw [t01]; exact fun z => z c) (wi_be in_ok (wi_ip (by rw [t01]; omega) (wi_ret ⟨rfl, H⟩))))
    refine wi_in n0 ?_
    by_cases n1 : 40 < n
    · refine wi_ip n1 (wi_ret ?_)
      unfold GX12_enough
      exact wi_be isHole_ok (wi_in (by rw [t01]; exact fun z => z c) (wi_be in_ok (wi_ip (by rw [t01]; omega) (wi_ret ⟨rfl, H⟩))))
    refine wi_in n1 ?_
    have f1 : m_rd h 344 0 = 1 := by
      rcases w1.1 with q | q
      · exact q.1
      · omega
    obtain ⟨h3, r, o, e3, F3, R3, rf, Rw, RwM, RwH⟩ := runNow H
    have same : ups (m_rd h 344) (82 + t) (m_rd h 344 (82 + t)) = m_rd h 344 := by
      funext i
      unfold ups
      by_cases q : i = 82 + t
      · rw [if_pos q, q]
      · rw [if_neg q]
    obtain ⟨h9, e9, F9⟩ := enC_L (t := t) (n := n) (B := 999) (r := r) (o := o) (S := m_rd h 344) (h0 := h) w1 (by omega) f1 c.1 c.2 (by omega) (by omega) d3 RwH rf 20 FU 1 h3 (by unfold FU; omega) (by omega) (by omega) F3 R3.2.2.1 R3.2.2.2 ⟨m_rd h 344 (82 + t), by rw [same]; exact R3.1⟩
    refine wi_bw e3 (wi_rw e9 (wi_ret ?_))
    have s9 : m_rd h9 344 = m_rd h 344 := funext fun j => F9.rd (by unfold RunC; omega)
    obtain ⟨g2, x2, G2, kp⟩ := keeps_ok (h := h9)
    have s2 : m_rd g2 344 = m_rd h 344 := by
      rw [← s9]
      exact funext fun j => G2.rd (by omega)
    unfold GX12_enough
    rw [w32_id (x := 82 + t) (by omega) (by omega)]
    refine wi_be isHole_ok (wi_in (by rw [t01, s9]; exact fun z => z c) (wi_be in_ok (wi_in (by rw [t01]; omega) (wi_ib (by omega) (by omega) (wi_gn (wi_bw x2 ?_))))))
    obtain ⟨g3, x3, G3, y, s3⟩ := enM_L (t := t) (n := n) (B := 999) (k := m_rd h 334 21) (u := m_rd h9 344 (82 + t)) (o := o) (S := m_rd h 344) (h0 := g2) (K := fun w6 h7 => gd [IB (82 + t) 167] (some (w6, m_wr h7 344 (82 + t) (m_rd h9 344 (82 + t))))) w1 (by omega) f1 c.1 c.2 (by omega) (by omega) (RwM.kr ((RunC.kr F9).tr (G2.kr (fun a j z => by unfold RdR; omega)))) (by rw [G2.rd (by omega), F9.rd (by unfold RunC; omega)]) (fun i i0 i1 => by rw [kp i i0 i1, s9]) 20 FU 1 g2 (by unfold FU; omega) (by omega) (by omega) Fr.rf ⟨m_rd h 344 (82 + t), by rw [same]; exact s2⟩
    refine wi_rw x3 (wi_ib (by omega) (by omega) (wi_gn (wi_ret ⟨rfl, ?_⟩)))
    rw [s9]
    have s4 : m_rd (m_wr g3 344 (82 + t) (m_rd h 344 (82 + t))) 344 = m_rd h 344 := by
      rw [rd_fn, s3]
      funext i
      unfold ups
      by_cases q : i = 82 + t
      · rw [if_pos q, q]
      · rw [if_neg q, if_neg q]
    refine H.scr (Fr.back ?_ s4 ?_)
    · refine (((F9.wk (fun a j z => RunC.bk z)).tr (G2.wk (fun a j z => by unfold BkP Scr; omega))).tr (G3.wk (fun a j z => z.elim (fun y => y.bk) (fun y => by unfold BkP; omega)))).wr ?_
      exact Or.inr (Or.inl rfl)
    · rw [rd_ne (by omega), G3.rd (by unfold StM; omega), G2.rd (by omega), F9.rd (by unfold RunC; omega)]
  · refine wi_ip (by rw [t01]; exact c) (wi_ret ?_)
    unfold GX12_enough
    exact wi_be isHole_ok (wi_ip (by rw [t01]; exact c) (wi_ret ⟨rfl, H⟩))
