/-! TURNS TRIED ON A COPY -/
def RunC (a _j : Int) : Prop := (298 ≤ a ∧ a < 334) ∨ (359 ≤ a ∧ a % 5 = 0)
theorem RunC.scr {a j : Int} (z : RunC a j) : Scr a j := by
  unfold RunC at z
  unfold Scr
  omega
theorem RunC.kr {h g : MH} (F : Fr RunC h g) : KeepR h g := F.kr (fun a j z => by unfold RdR; unfold RunC at z; omega)
theorem StC.run {h g : MH} (F : Fr StC h g) : Fr RunC h g := F.wk (fun a j z => by unfold StC at z; unfold RunC; omega)
theorem start_ok {a1 a2 B : Int} {S : Int → Int} {h : MH} (K : KK h) (R1 : ShR h a1 S) (R2 : WkR h a2 S) (H : Wf B S) (d1 : a1 + 3 ≤ 298) (d2 : a2 + 8 ≤ 298) : ∃ h', GX7_start a1 a2 h = some h' ∧ Fr RunC h h' ∧ RuR h' S := by
  obtain ⟨g1, e1, F1, S1⟩ := copy8 (t := 311) (a := a1) (by omega) R1
  obtain ⟨g2, e2, F2, S2⟩ := copy10 (t := 314) (a := a2) (by omega) (R2.cg (h' := g1) (fun y j z1 z2 => F1.rd (by omega))) H.2.2.1.1.2 H.2.1.1.2
  have K1 : KK g2 := (K.cg F1.1 F1.2.1).cg F2.1 F2.2.1
  have S1' : ShR g2 311 S := S1.cg (fun y j z1 z2 => F2.rd (by omega))
  obtain ⟨g3, e3, F3, C3⟩ := draw_ok (t1 := 311) (t2 := 315) H.1 H.2.1 S1' S2.2.2.2.1 (to_kk K1 311 8 (by decide) rfl) (to_kk K1 315 4 (by decide) rfl) (by omega) (by omega)
  have K3 : KK g3 := K1.cg F3.1 F3.2.1
  unfold GX7_start
  rw [e1, bv_some, e2, bv_some, e3, bv_some]
  refine ⟨g3, rfl, ((F1.wk (fun a j z => by unfold RunC; omega)).tr (F2.wk (fun a j z => by unfold RunC; omega))).tr (F3.wk (fun a j z => by unfold RunC; omega)), S1'.cg (fun y j z1 z2 => F3.rd (by omega)), S2.cg (fun y j z1 z2 => F3.rd (by omega)), C3, K3.2.2 321 (by decide)⟩
/-- the rule in force, for class and reference -/
theorem force_W {h : MH} (H : Inv h) : ∃ r o, (∀ g, KeepR h g → m_rd g 20 3 = m_rd h 20 3 → GX11_ruleInForce g = some (r, g)) ∧ RwC h r o ∧ RwM h (m_rd h 334 21) o := by
  obtain ⟨⟨d1, d2, d3, d4, d5, d6, d7⟩, w1, w2, w3, w4, w5, w6, w7⟩ := H.2.2.2.1
  have rc := H.2.2.1.1
  obtain ⟨r, o, a, b, c⟩ := rules_W H (k := m_rd h 334 21) (by omega) (by omega)
  refine ⟨r, o, fun g K e => ?_, b, c⟩
  unfold GX11_ruleInForce
  rw [e, d4, a g K, bd_some]
theorem runNow {h : MH} (H : Inv h) : ∃ h3 r o, GX11_startFromNow h = some h3 ∧ Fr RunC h h3 ∧ RuR h3 (m_rd h 344) ∧ (∀ g, Fr RunC h g → GX11_ruleInForce g = some (r, g)) ∧ RwC h3 r o ∧ RwM h (m_rd h 334 21) o ∧ RwC h r o := by
  obtain ⟨⟨d1, d2, d3, d4, d5, d6, d7⟩, w1, w2, w3, w4, w5, w6, w7⟩ := H.2.2.2.1
  obtain ⟨h3, e3, F3, R3⟩ := start_ok (a1 := 21) (a2 := 32) H.1 d1 d3 w1 (by decide) (by decide)
  obtain ⟨r, o, a, b, c⟩ := force_W H
  refine ⟨h3, r, o, ?_, F3, R3, fun g F => a g (RunC.kr F) (F.rd (by unfold RunC; omega)), b.kr (RunC.kr F3), c, b⟩
  unfold GX11_startFromNow
  rw [e3, bv_some]
theorem keeps_ok {h : MH} : ∃ h', GX12_keeps h = some h' ∧ Fr (fun a _ => a = 350) h h' ∧ ∀ k, 0 ≤ k → k < 72 → m_rd h' 350 k = m_rd h 344 (10 + k) := by
  obtain ⟨g, e, F, _, q⟩ := cploop (L := GX12_keeps_L2 (fun h1 => some h1)) (K := fun h1 => some h1) (A := 350) (B := 344) (i0 := 0) (j0 := 10) (N := 72) (P := fun _ => True) (fun f v x _ v0 v1 => by
    conv => lhs; unfold GX12_keeps_L2
    rw [if_pos v1, w32_id (x := 10 + v) (by omega) (by omega), gd_ib (by omega) (by omega), gd_ib (by omega) (by omega), gd_nil, w32_id (x := v + 1) (by omega) (by omega), Int.zero_add]) (fun f x _ => by
    conv => lhs; unfold GX12_keeps_L2
    rw [if_neg (by decide)]) (fun _ _ _ _ => trivial) (by decide) 72 FU 0 h (by unfold FU; omega) (by omega) (by omega) trivial
  refine ⟨g, ?_, F.wk (fun a j z => z.1), fun k k0 k1 => ?_⟩
  · unfold GX12_keeps
    exact e
  · have := q k k0 k1
    rw [Int.zero_add] at this
    exact this
theorem laysBack_ok {h : MH} {S : Int → Int} (kp : ∀ k, 0 ≤ k → k < 72 → m_rd h 350 k = S (10 + k)) (out : ∀ j, ¬ (10 ≤ j ∧ j < 82) → m_rd h 344 j = S j) : ∃ h', GX12_laysBack h = some h' ∧ Fr (fun a j => a = 344 ∧ 10 ≤ j ∧ j < 82) h h' ∧ m_rd h' 344 = S := by
  obtain ⟨g, e, F, _, q⟩ := cploop (L := GX12_laysBack_L2 (fun h1 => some h1)) (K := fun h1 => some h1) (A := 344) (B := 350) (i0 := 10) (j0 := 0) (N := 72) (P := fun _ => True) (fun f v x _ v0 v1 => by
    conv => lhs; unfold GX12_laysBack_L2
    rw [if_pos v1, w32_id (x := 10 + v) (by omega) (by omega), gd_ib (by omega) (by omega), gd_ib (by omega) (by omega), gd_nil, w32_id (x := v + 1) (by omega) (by omega), Int.zero_add]) (fun f x _ => by
    conv => lhs; unfold GX12_laysBack_L2
    rw [if_neg (by decide)]) (fun _ _ _ _ => trivial) (by decide) 72 FU 0 h (by unfold FU; omega) (by omega) (by omega) trivial
  refine ⟨g, ?_, F.wk (fun a j z => by omega), funext fun j => ?_⟩
  · unfold GX12_laysBack
    exact e
  · by_cases c : 10 ≤ j ∧ j < 82
    · have := q (j - 10) (by omega) (by omega)
      rw [show 10 + (j - 10) = j by omega, Int.zero_add, kp _ (by omega) (by omega), show 10 + (j - 10) = j by omega] at this
      exact this
    · rw [F.rd (by omega)]
      exact out j c
/-- what was changed and laid back -/
theorem Fr.back {h g : MH} (F : Fr (fun a j => Scr a j ∨ a = 344 ∨ (a = 334 ∧ j = 21)) h g) (e : m_rd g 344 = m_rd h 344) (e2 : m_rd g 334 21 = m_rd h 334 21) : Fr Scr h g := by
  refine ⟨F.1, F.2.1, fun a j z => ?_⟩
  by_cases c : a = 344
  · rw [c, e]
  by_cases c2 : a = 334 ∧ j = 21
  · rw [c2.1, c2.2, e2]
  · exact F.rd (fun y => y.elim z (fun y => y.elim c c2))
def BkP (a j : Int) : Prop := Scr a j ∨ a = 344 ∨ (a = 334 ∧ j = 21)
theorem StM.bk {a j : Int} (z : StM a j) : BkP a j := by
  unfold StM at z
  unfold BkP Scr
  omega
theorem RunC.bk {a j : Int} (z : RunC a j) : BkP a j := Or.inl z.scr
/-- turns, one after the other -/
def itS (o : WF) : Nat → (Int → Int) → (Int → Int)
  | 0, S => S
  | n + 1, S => itS o n (paS o S)
theorem it_0 {o : WF} : ∀ (m : Nat) (S : Int → Int), S 12 = 0 → ∀ k, k ≠ 10 → itS o m S k = S k := by
  intro m
  induction m with
  | zero =>
    intro S _ k _
    rfl
  | succ m ih =>
    intro S n k kk
    show itS o m (paS o S) k = S k
    have p := (pa_0 (o := o) n).1
    rw [p, ih (ups S 10 (S 10 + 1)) (by rw [up_k (by omega)]; exact n) k kk, up_k kk]
theorem it_wf {o : WF} : ∀ (m : Nat) (B : Int) (S : Int → Int), Wf B S → Wf (B + m) (itS o m S) := by
  intro m
  induction m with
  | zero =>
    intro B S H
    rw [show B + ((0 : Nat) : Int) = B by omega]
    exact H
  | succ m ih =>
    intro B S H
    rw [show B + ((m + 1 : Nat) : Int) = B + 1 + m by omega]
    exact ih (B + 1) (paS o S) (pa_wf H)
theorem it_k {o : WF} : ∀ (m : Nat) (B : Int) (S : Int → Int), Wf B S → ∀ k, k < 10 ∨ k = 13 ∨ 45 ≤ k → itS o m S k = S k := by
  intro m
  induction m with
  | zero =>
    intro B S _ k _
    rfl
  | succ m ih =>
    intro B S H k z
    show itS o m (paS o S) k = S k
    rw [ih (B + 1) (paS o S) (pa_wf H) k z, pa_k H z]
theorem steps_L {r n : Int} {o : WF} {K : MH → Option MH} : ∀ (m f : Nat) (v B : Int) (S : Int → Int) (h : MH), m < f → v + m = n → 0 ≤ v → n ≤ 1000 → RuR h S → Wf B S → B + m ≤ 100000 → RwC h r o → ∃ h' S' B', GX7_steps_L2 r n K f v h = K h' ∧ Fr StC h h' ∧ RuR h' S' ∧ (∀ k, k ≠ 10 → S' k = itS o m S k) ∧ Wf B' S' := by
  intro m
  induction m with
  | zero =>
    intro f v B S h hf hv v0 hn R H hB Rw
    obtain ⟨q, rfl⟩ : ∃ q, f = q + 1 := ⟨f - 1, by omega⟩
    conv => enter [1, h', 1, S', 1, B', 1, 1]; unfold GX7_steps_L2
    rw [if_neg (by omega)]
    exact ⟨h, S, B, rfl, Fr.rf, R, fun k _ => rfl, H⟩
  | succ m ih =>
    intro f v B S h hf hv v0 hn R H hB Rw
    obtain ⟨q, rfl⟩ : ∃ q, f = q + 1 := ⟨f - 1, by omega⟩
    have n12 := H.2.2.1.1
    conv => enter [1, h', 1, S', 1, B', 1, 1]; unfold GX7_steps_L2
    rw [if_pos (by omega), R.2.1.2.2.1]
    by_cases c : 0 < S 12
    · obtain ⟨h1, e1, F1, R1, T1⟩ := step_ok R H (by omega) Rw
      rw [if_pos c, e1, bd_some, w32_id (x := v + 1) (by omega) (by omega)]
      obtain ⟨h', S', B', e', F', R', k', W'⟩ := ih q (v + 1) (B + 1) (paS o S) h1 (by omega) (by omega) (by omega) hn R1 (pa_wf H) (by omega) (Rw.kr (StC.kr F1))
      exact ⟨h', S', B', e', F1.tr F', R', k', W'⟩
    · rw [if_neg c]
      exact ⟨h, S, B, rfl, Fr.rf, R, fun k kk => (it_0 (m + 1) S (by omega) k kk).symm, H⟩
theorem passesAll_L {n k : Int} {o : WF} {K : MH → Option MH} : ∀ (m f : Nat) (v B : Int) (S : Int → Int) (h : MH), m < f → v + m = n → 0 ≤ v → n ≤ 1000 → m_rd h 344 = S → Wf B S → B + m ≤ 100000 → RwM h k o → m_rd h 334 21 = k → ∃ h', GX12_passesAll_L2 n K f v h = K h' ∧ Fr StM h h' ∧ m_rd h' 344 = itS o m S := by
  intro m
  induction m with
  | zero =>
    intro f v B S h hf hv v0 hn sg H hB Rw hk
    obtain ⟨q, rfl⟩ : ∃ q, f = q + 1 := ⟨f - 1, by omega⟩
    conv => enter [1, h', 1, 1]; unfold GX12_passesAll_L2
    rw [if_neg (by omega)]
    exact ⟨h, rfl, Fr.rf, sg⟩
  | succ m ih =>
    intro f v B S h hf hv v0 hn sg H hB Rw hk
    obtain ⟨q, rfl⟩ : ∃ q, f = q + 1 := ⟨f - 1, by omega⟩
    conv => enter [1, h', 1, 1]; unfold GX12_passesAll_L2
    obtain ⟨h1, e1, F1, s1, T1⟩ := passes_ok sg H (by omega) Rw hk
    rw [if_pos (by omega), e1, bd_some, w32_id (x := v + 1) (by omega) (by omega)]
    obtain ⟨h', e', F', s'⟩ := ih q (v + 1) (B + 1) (paS o S) h1 (by omega) (by omega) (by omega) hn s1 (pa_wf H) (by omega) (Rw.kr (StM.kr F1)) (by rw [F1.rd (by unfold StM; omega)]; exact hk)
    exact ⟨h', e', F1.tr F', s'⟩
/-- what a question by turns leaves behind -/
theorem ask_fin {h g1 g2 g3 g4 : MH} (H : Inv h) (F1 : Fr RunC h g1) (F2 : Fr (fun a _ => a = 350) g1 g2) (kp : ∀ k, 0 ≤ k → k < 72 → m_rd g2 350 k = m_rd g1 344 (10 + k)) (F3 : Fr StM g2 g3) (F4 : Fr (fun a j => a = 344 ∧ 10 ≤ j ∧ j < 82) g3 g4) (e : m_rd g4 344 = m_rd h 344) : Inv g4 := by
  refine H.scr (Fr.back ?_ e ?_)
  · exact (((F1.wk (fun a j z => RunC.bk z)).tr (F2.wk (fun a j z => by unfold BkP Scr; omega))).tr (F3.wk (fun a j z => z.bk))).tr (F4.wk (fun a j z => by unfold BkP; omega))
  · rw [F4.rd (by omega), F3.rd (by unfold StM; omega), F2.rd (by omega), F1.rd (by unfold RunC; omega)]
theorem ah_pre {a1 a3 : Int} {h : MH} {S : Int → Int} {body : Int → MH → Option (Int × MH)} (R : ShR h 21 S) : (if a3 = 0 then bd (GX8_hasHole 21 a1 h) (fun x14 h13 => body x14 h13) else jn (body 0 h) (fun j12 => if 0 < a3 then (if 3 < a3 then j12 else body 1 h) else j12)) = body (if (a3 = 0 ∧ 0 ≤ a1 ∧ a1 < S 3) ∨ (1 ≤ a3 ∧ a3 ≤ 3) then 1 else 0) h := by
  by_cases c : a3 = 0
  · rw [if_pos c, hasHole_ok R, bd_some]
    by_cases c2 : 0 ≤ a1 ∧ a1 < S 3
    · rw [if_pos c2, if_pos (Or.inl ⟨c, c2⟩)]
    · rw [if_neg c2, if_neg (by omega)]
  · rw [if_neg c]
    simp only [jn]
    by_cases c2 : 0 < a3
    · rw [if_pos c2]
      by_cases c3 : 3 < a3
      · rw [if_pos c3, if_neg (by omega)]
      · rw [if_neg c3, if_pos (by omega)]
    · rw [if_neg c2, if_neg (by omega)]
theorem c_ahead (a1 a2 a3 : Int) : Call (GX11_ahead a1 a2 a3) (GX12_ahead a1 a2 a3) := by
  intro h H
  obtain ⟨⟨d1, d2, d3, d4, d5, d6, d7⟩, w1, w2, w3, w4, w5, w6, w7⟩ := H.2.2.2.1
  have fb := w1.1.b
  unfold GX11_ahead
  refine wi_jn (wi_rw (ah_pre (S := m_rd h 344) d1) ?_)
  refine wi_be (hasFrame_ok H) ?_
  by_cases f1 : m_rd h 344 0 = 1
  · refine wi_in (by rw [t01]; exact fun z => z f1) ?_
    by_cases c : (a3 = 0 ∧ 0 ≤ a1 ∧ a1 < m_rd h 344 3) ∨ (1 ≤ a3 ∧ a3 ≤ 3)
    · refine wi_in (by rw [t01]; exact fun z => z c) ?_
      by_cases n0 : a2 < 0
      · refine wi_ip n0 (wi_ret ?_)
        unfold GX12_ahead
        exact wi_be isFrame_ok (wi_in (by rw [t01]; exact fun z => z f1) (wi_be in_ok (wi_ip (by rw [t01]; omega) (wi_ret ⟨rfl, H⟩))))
      refine wi_in n0 ?_
      by_cases n1 : 100 < a2
      · refine wi_ip n1 (wi_ret ?_)
        unfold GX12_ahead
        exact wi_be isFrame_ok (wi_in (by rw [t01]; exact fun z => z f1) (wi_be in_ok (wi_ip (by rw [t01]; omega) (wi_ret ⟨rfl, H⟩))))
      refine wi_in n1 ?_
      obtain ⟨h3, r, o, e3, F3, R3, rf, Rw, RwM, _⟩ := runNow H
      refine wi_bw e3 (wi_be (rf h3 F3) ?_)
      obtain ⟨h9, S', B', e9, F9, R9, k9, W9⟩ := steps_L (r := r) (n := a2) (o := o) (K := fun h1 => some h1) a2.toNat FU 0 999 (m_rd h 344) h3 (by unfold FU; omega) (by omega) (by omega) (by omega) R3 w1 (by omega) Rw
      have F9' : Fr RunC h h9 := F3.tr (StC.run F9)
      have s9 : m_rd h9 344 = m_rd h 344 := funext fun j => F9'.rd (by unfold RunC; omega)
      refine wi_bw (show GX7_steps r a2 h3 = some h9 from e9) ?_
      -- the reference
      obtain ⟨g2, x2, G2, kp⟩ := keeps_ok (h := h9)
      have s2 : m_rd g2 344 = m_rd h 344 := by
        rw [← s9]
        exact funext fun j => G2.rd (by omega)
      obtain ⟨g3, x3, G3, s3⟩ := passesAll_L (n := a2) (k := m_rd h 334 21) (o := o) (K := fun h1 => some h1) a2.toNat FU 0 999 (m_rd h 344) g2 (by unfold FU; omega) (by omega) (by omega) (by omega) s2 w1 (by omega) (RwM.kr ((RunC.kr F9').tr (G2.kr (fun a j z => by unfold RdR; omega)))) (by rw [G2.rd (by omega), F9'.rd (by unfold RunC; omega)])
      obtain ⟨g4, x4, G4, s4⟩ := laysBack_ok (h := g3) (S := m_rd h 344) (fun k k0 k1 => by rw [G3.rd (by unfold StM; omega), kp k k0 k1, s9]) (fun j z => by rw [G3.rd (by unfold StM; omega), s2])
      have I4 : Inv g4 := ask_fin H F9' G2 kp G3 G4 s4
      have mod : ∀ v, v = (if a3 = 0 then itS o a2.toNat (m_rd h 344) (14 + a1) else if a3 = 1 then itS o a2.toNat (m_rd h 344) 12 else if a3 = 2 then sm6 (itS o a2.toNat (m_rd h 344)) 20 else itS o a2.toNat (m_rd h 344) 11) → Wi (GX12_ahead a1 a2 a3 h9) (fun w h2 => v = w ∧ Inv h2) := by
        intro v hv
        have x3' : GX12_passesAll a2 g2 = some g3 := x3
        have Wi3 := it_wf (o := o) a2.toNat 999 (m_rd h 344) w1
        unfold GX12_ahead
        refine wi_be isFrame_ok (wi_in (by rw [t01, s9]; exact fun z => z f1) (wi_be in_ok (wi_in (by rw [t01]; omega) (wi_be in_ok (wi_in (by rw [t01]; omega) (wi_jn ?_))))))
        by_cases q0 : a3 = 0
        · refine wi_ip q0 (wi_be isHole_ok (wi_in (by rw [t01, s9]; omega) (wi_bw x2 (wi_bw x3' (wi_jn ?_)))))
          rw [w32_id (x := 14 + a1) (by omega) (by omega)]
          refine wi_ip q0 (wi_ib (by omega) (by omega) (wi_gn (wi_bw x4 (wi_ret ⟨?_, I4⟩))))
          rw [hv, if_pos q0, s3]
        · refine wi_in q0 (wi_bw x2 (wi_bw x3' (wi_jn (wi_in q0 ?_))))
          by_cases q1 : a3 = 1
          · refine wi_ip q1 (wi_bw x4 (wi_ret ⟨?_, I4⟩))
            rw [hv, if_neg q0, if_pos q1, s3]
          refine wi_in q1 ?_
          by_cases q2 : a3 = 2
          · refine wi_ip q2 (wi_be (over_bg' s3 Wi3.1 Wi3.2.2.1) (wi_bw x4 (wi_ret ⟨?_, I4⟩)))
            rw [hv, if_neg q0, if_neg q1, if_pos q2]
          refine wi_in q2 (wi_bw x4 (wi_ret ⟨?_, I4⟩))
          rw [hv, if_neg q0, if_neg q1, if_neg q2, s3]
      by_cases q0 : a3 = 0
      · refine wi_ip q0 (wi_ib (by omega) (by omega) (wi_gn (wi_ret (mod _ ?_))))
        rw [if_pos q0, ← k9 _ (by omega)]
        exact R9.2.1.2.2.2.2.1 a1 (by omega) (by omega)
      refine wi_in q0 ?_
      by_cases q1 : a3 = 1
      · refine wi_ip q1 (wi_ret (mod _ ?_))
        rw [if_neg q0, if_pos q1, ← k9 _ (by omega)]
        exact R9.2.1.2.2.1
      refine wi_in q1 ?_
      by_cases q2 : a3 = 2
      · refine wi_ip q2 (wi_be (bags_all (w := 314) (by decide) R9.2.2.2 R9.2.1 W9.2.2.1) (wi_ret (mod _ ?_)))
        rw [if_neg q0, if_neg q1, if_pos q2]
        exact sm6_eq (fun i i0 i1 => k9 _ (by omega))
      refine wi_in q2 (wi_ret (mod _ ?_))
      rw [if_neg q0, if_neg q1, if_neg q2, ← k9 _ (by omega)]
      exact R9.2.1.2.1
    · refine wi_ip (by rw [t01]; exact c) (wi_ret ?_)
      unfold GX12_ahead
      refine wi_be isFrame_ok (wi_in (by rw [t01]; exact fun z => z f1) (wi_be in_ok ?_))
      refine wi_it (fun _ => wi_ret ⟨rfl, H⟩) (fun q1 => wi_be in_ok ?_)
      refine wi_it (fun _ => wi_ret ⟨rfl, H⟩) (fun q2 => wi_jn ?_)
      rw [t01] at q2
      exact wi_ip (by omega) (wi_be isHole_ok (wi_ip (by rw [t01]; omega) (wi_ret ⟨rfl, H⟩)))
  · refine wi_ip (by rw [t01]; exact f1) (wi_ret ?_)
    unfold GX12_ahead
    exact wi_be isFrame_ok (wi_ip (by rw [t01]; exact f1) (wi_ret ⟨rfl, H⟩))
