/-! ruled, look -/
theorem RB.copy2 {h0 h : MH} (H : Inv h0) (R : RB h0 h (beg (m_rd h0 344))) : ∃ h1, GX10_copyFrom 314 24 h = some h1 ∧ RB h0 h1 (beg (m_rd h0 344)) ∧ RuR h1 (beg (m_rd h0 344)) ∧ Fr StC h h1 := by
  obtain ⟨⟨d1, d2, d3, d4, d5, d6, d7⟩, w1, w2, w3, w4, w5, w6, w7⟩ := H.2.2.2.1
  obtain ⟨h1, e1, F1, R1⟩ := copy10 (t := 314) (a := 24) (by omega) (WkR.cg (h := h0) (h' := h) d2 (fun a j z1 z2 => R.1.rd (by unfold RunC; omega))) w2.2.2.1.1.2 w2.2.1.1.2
  have RB1 := R.st F1 (fun a j z => by unfold RunC; omega)
  exact ⟨h1, e1, RB1, RB1.ru H.1 w2.2.1.1.2 R1 (fun _ _ => rfl) (fun _ _ _ => ⟨rfl, rfl⟩), F1.wk (fun a j z => by unfold StC; omega)⟩
theorem RB.agr2 {h0 h : MH} {r : Int} {o : WF} (H : Inv h0) (R : RB h0 h (beg (m_rd h0 344))) (RW : RuR h (beg (m_rd h0 344))) (Rw : RwC h0 r o) : ∃ x h', GX7_agrees 20 r h = some (x, h') ∧ RB h0 h' (beg (m_rd h0 344)) ∧ (x = 0 ∨ x = 1) ∧ (x = 1 ↔ alQ o (beg (m_rd h0 344)) 0) ∧ Fr StC h h' := by
  obtain ⟨⟨d1, d2, d3, d4, d5, d6, d7⟩, w1, w2, w3, w4, w5, w6, w7⟩ := H.2.2.2.1
  have b4 := H.b4
  obtain ⟨x, h', e', F', x01, xi⟩ := agrees_ok (o := o) RW w2 w3 (H.nt.cg R.1 (fun a j z => by unfold RunC at z; omega)) (fun k z1 z2 => beg_k b4.2.1 b4.2.2.2 (by omega)) (beg_k b4.2.1 b4.2.2.2 (by omega)) (by rw [R.1.2.1]; exact H.1.2.2 320 (by decide)) (beg_10 b4.2.1 b4.2.2.2) (Rw.kr (RunC.kr R.1))
  exact ⟨x, h', e', R.st F' (fun a j z => by unfold StC at z; unfold RunC; omega), x01, xi, F'⟩
/-- all rules, and none: what they do -/
def AllR (h : MH) (f : Int → Int × WF) : Prop := ∀ k, -1 ≤ k → k < m_rd h 0 4 → (∀ g, KeepR h g → GX11_ruleAt k g = some ((f k).1, g)) ∧ RwC h (f k).1 (f k).2 ∧ RwM h k (f k).2
theorem all_R {h : MH} (H : Inv h) : ∃ f, AllR h f := by
  have q : ∀ k : Int, ∃ p : Int × WF, -1 ≤ k → k < m_rd h 0 4 → (∀ g, KeepR h g → GX11_ruleAt k g = some (p.1, g)) ∧ RwC h p.1 p.2 ∧ RwM h k p.2 := by
    intro k
    by_cases c : -1 ≤ k ∧ k < m_rd h 0 4
    · obtain ⟨r, o, a1, a2, a3⟩ := rules_W H c.1 c.2
      exact ⟨(r, o), fun _ _ => ⟨a1, a2, a3⟩⟩
    · exact ⟨(0, none), fun z1 z2 => absurd ⟨z1, z2⟩ c⟩
  exact Classical.axiomOfChoice q
noncomputable def ruP (f : Int → Int × WF) (S : Int → Int) : Int → Bool := fun k => dec (alQ (f k).2 (beg S) 0)
theorem ruC_L {h0 : MH} {u : Int} {f : Int → Int × WF} {K : Int → Int → MH → Option (Int × MH)} (H : Inv h0) (A : AllR h0 f) : ∀ (m g : Nat) (a b v : Int) (h : MH), m < g → v + m = m_rd h0 0 4 → -1 ≤ v → 0 ≤ a → a ≤ v + 1 → (b = -2 ∨ -1 ≤ b) → RB h0 h (beg (m_rd h0 344)) → ∃ h', GX11_ruled_L48 u K g a b v h = K (a + cntF (ruP f (m_rd h0 344)) m v) (if b = -2 then leF (ruP f (m_rd h0 344)) m v else b) h' ∧ Fr RunC h0 h' := by
  have rb := H.2.2.1
  intro m
  induction m with
  | zero =>
    intro g a b v h hf hv v0 a0 a1 hb R
    obtain ⟨q, rfl⟩ : ∃ q, g = q + 1 := ⟨g - 1, by omega⟩
    conv => enter [1, h', 1, 1]; unfold GX11_ruled_L48
    rw [R.1.rd (x := 0) (j := 4) (by unfold RunC; omega), if_neg (by omega), cntF_0, leF_0, Int.add_zero]
    refine ⟨h, ?_, R.1⟩
    congr 1
    by_cases c : b = -2
    · rw [if_pos c, c]
    · rw [if_neg c]
  | succ m ih =>
    intro g a b v h hf hv v0 a0 a1 hb R
    obtain ⟨q, rfl⟩ : ∃ q, g = q + 1 := ⟨g - 1, by omega⟩
    have r6 := rb.2.2.1
    conv => enter [1, h', 1, 1]; unfold GX11_ruled_L48
    obtain ⟨h1, e1, R1, U1, F1⟩ := R.copy2 H
    obtain ⟨A1, A2, A3⟩ := A v v0 (by omega)
    obtain ⟨x, h4, e4, R4, x01, xi, F4⟩ := R1.agr2 H U1 A2
    rw [R.1.rd (x := 0) (j := 4) (by unfold RunC; omega), if_pos (by omega), e1, bv_some, A1 h1 (RunC.kr R1.1), bd_some, e4, bd_some, w32_id (x := v + 1) (by omega) (by omega), w32_id (x := a + 1) (by omega) (by omega)]
    by_cases c : x = 0
    · have pf : ruP f (m_rd h0 344) v = false := dec_f (fun z => by have := xi.2 z; omega)
      rw [if_pos c, cnt_f pf, le_f pf]
      exact ih q a b (v + 1) h4 (by omega) (by omega) (by omega) a0 (by omega) hb R4
    · have pt : ruP f (m_rd h0 344) v = true := dec_t (xi.1 (by omega))
      rw [if_neg c, cnt_t pt, le_t pt]
      by_cases c2 : b = -2
      · rw [if_pos c2, if_pos c2]
        obtain ⟨h', e', F'⟩ := ih q (a + 1) v (v + 1) h4 (by omega) (by omega) (by omega) (by omega) (by omega) (Or.inr v0) R4
        rw [if_neg (by omega), Int.add_assoc] at e'
        exact ⟨h', e', F'⟩
      · rw [if_neg c2, if_neg c2]
        obtain ⟨h', e', F'⟩ := ih q (a + 1) b (v + 1) h4 (by omega) (by omega) (by omega) (by omega) (by omega) hb R4
        rw [if_neg c2, Int.add_assoc] at e'
        exact ⟨h', e', F'⟩
/-- what fits: cell r of isFit is for rule r - 1 -/
def FitR (f : Int → Int × WF) (S : Int → Int) (t : Int) (h : MH) (r : Int) : Prop := (m_rd h 352 r = 0 ∨ m_rd h 352 r = 1) ∧ (m_rd h 352 r = 1 ↔ alQ (f (r - 1)).2 (beg S) 0) ∧ (0 ≤ t → t ≤ 60 → ∀ i, 0 ≤ i → i < S 3 → m_rd h 353 (6 * r + i) = itS (f (r - 1)).2 (t.toNat + 1) (beg S) (14 + i))
theorem fitM_L {h0 hA : MH} {t u : Int} {f : Int → Int × WF} {K : MH → Option MH} (H : Inv hA) (A : AllR hA f) (K0 : KeepR hA h0) : ∀ (m g : Nat) (v : Int) (h : MH), m < g → v + m = m_rd hA 0 4 + 1 → 0 ≤ v → Fr (fun a j => BkP a j ∧ a ≠ 350) h0 h → (∀ i, ¬ (10 ≤ i ∧ i < 82) → m_rd h 344 i = m_rd hA 344 i) → (∀ r, 0 ≤ r → r < v → FitR f (m_rd hA 344) t h r) → ∃ h', GX12_fillsFits_L11 t u K g v h = K h' ∧ Fr (fun a j => BkP a j ∧ a ≠ 350) h0 h' ∧ (∀ i, ¬ (10 ≤ i ∧ i < 82) → m_rd h' 344 i = m_rd hA 344 i) ∧ ∀ r, 0 ≤ r → r ≤ m_rd hA 0 4 → FitR f (m_rd hA 344) t h' r := by
  have rb := H.2.2.1
  have b4 := H.b4
  obtain ⟨_, w1, w2, w3, w4, w5, w6, w7⟩ := H.2.2.2.1
  have fb := w1.1.b
  intro m
  induction m with
  | zero =>
    intro g v h hf hv v0 F out done
    obtain ⟨q, rfl⟩ : ∃ q, g = q + 1 := ⟨g - 1, by omega⟩
    have n2 : m_rd h 334 2 = m_rd hA 0 4 := by
      rw [F.rd (by unfold BkP Scr; omega), K0.2.2 334 2 (by unfold RdR; omega)]
      exact rb.1.symm
    conv => enter [1, h', 1, 1]; unfold GX12_fillsFits_L11
    rw [n2, if_pos (by omega)]
    exact ⟨h, rfl, F, out, fun r r0 r1 => done r r0 (by omega)⟩
  | succ m ih =>
    intro g v h hf hv v0 F out done
    obtain ⟨q, rfl⟩ : ∃ q, g = q + 1 := ⟨g - 1, by omega⟩
    have r6 := rb.2.2.1
    have n2 : m_rd h 334 2 = m_rd hA 0 4 := by
      rw [F.rd (by unfold BkP Scr; omega), K0.2.2 334 2 (by unfold RdR; omega)]
      exact rb.1.symm
    conv => enter [1, h', 1, 1]; unfold GX12_fillsFits_L11
    rw [n2, if_neg (by omega), w32_id (x := v - 1) (by omega) (by omega)]
    have X : ∀ i, ¬ (10 ≤ i ∧ i < 82) → m_rd (m_wr h 334 21 (v - 1)) 344 i = m_rd hA 344 i := fun i z => by
      rw [rd_ne (by omega)]
      exact out i z
    obtain ⟨h1, e1, F1, s1⟩ := begins_ok (h := m_wr h 334 21 (v - 1)) rfl (by rw [X 4 (by omega)]; omega) (by rw [X 4 (by omega)]; omega) (by rw [X 5 (by omega)]; omega) (by rw [X 5 (by omega)]; omega)
    rw [beg_out (S := m_rd hA 344) (by omega) (by omega) X] at s1
    have Fh1 : Fr (fun a j => BkP a j ∧ a ≠ 350) h0 h1 := (F.wr (by unfold BkP; omega)).tr (F1.wk (fun a j z => by unfold BkP; omega))
    have kr1 : KeepR h0 h1 := Fh1.kr (fun a j z => by unfold RdR; unfold BkP Scr at z; omega)
    have bk : ∀ i, i < 10 ∨ 82 ≤ i → beg (m_rd hA 344) i = m_rd hA 344 i := fun i z => beg_k b4.2.1 b4.2.2.2 z
    have NT : WfN (beg (m_rd hA 344)) := w3.sg (bk 3 (by omega)) (fun i z1 z2 => bk i (by omega))
    obtain ⟨A1, A2, A3⟩ := A (v - 1) (by omega) (by omega)
    obtain ⟨y, h2, e2, y01, yi, F2, s2, ly, lo⟩ := areAll_ok (r := v) (t := t) (k := v - 1) (o := (f (v - 1)).2) v0 (by omega) s1 w2 NT (A3.kr (K0.tr kr1)) (by rw [F1.rd (by omega), rd_eq rfl rfl])
    have Fh2 : Fr (fun a j => BkP a j ∧ a ≠ 350) h0 h2 := Fh1.tr (F2.wk (fun a j z => by unfold AlM StM at z; unfold BkP Scr; omega))
    have k2 : m_kd h2 352 = 4 := by
      unfold m_kd
      rw [Fh2.2.1, K0.2.1, show hA.2.1 352 = (4, 7) from H.1.2.2 352 (by decide)]
    have bst : m_bst h2 352 y = y := by
      unfold m_bst
      rw [k2, if_neg (by decide), band1 y01]
    rw [e1, bv_some, e2, bd_some, gd_ib (by omega) (by omega), gd_nil, w32_id (x := v + 1) (by omega) (by omega), bst]
    refine ih q (v + 1) (m_wr h2 352 v y) (by omega) (by omega) (by omega) (Fh2.wr (by unfold BkP Scr; omega)) (fun i z => ?_) (fun r r0 r1 => ?_)
    · rw [rd_ne (by omega), s2, it_k 61 0 _ w2 i (by omega), bk i (by omega)]
    · unfold FitR
      by_cases c : r = v
      · rw [rd_eq rfl c, c]
        refine ⟨y01, yi, fun z1 z2 i i0 i1 => ?_⟩
        rw [rd_ne (by omega)]
        exact ly z1 z2 i i0 (by rw [bk 3 (by omega)]; exact i1)
      · obtain ⟨d1, d2, d3⟩ := done r r0 (by omega)
        have e352 : m_rd (m_wr h2 352 v y) 352 r = m_rd h 352 r := by
          rw [rd_ne (by omega), F2.rd (by unfold AlM StM; omega), F1.rd (by omega), rd_ne (by omega)]
        rw [e352]
        refine ⟨d1, d2, fun z1 z2 i i0 i1 => ?_⟩
        rw [rd_ne (by omega), lo _ (by omega), F1.rd (by omega), rd_ne (by omega)]
        exact d3 z1 z2 i i0 i1
theorem fits_ok {hA h : MH} {t : Int} {f : Int → Int × WF} (H : Inv hA) (A : AllR hA f) (F0 : Fr RunC hA h) : ∃ h', GX12_fillsFits t h = some h' ∧ Fr Scr h h' ∧ ∀ r, 0 ≤ r → r ≤ m_rd hA 0 4 → FitR f (m_rd hA 344) t h' r := by
  have rb := H.2.2.1
  have r0 := rb.2.1
  have r6 := rb.2.2.1
  have sg : m_rd h 344 = m_rd hA 344 := funext fun j => F0.rd (by unfold RunC; omega)
  obtain ⟨g2, x2, G2, kp⟩ := keeps_ok (h := h)
  have s2 : m_rd g2 344 = m_rd hA 344 := by
    rw [← sg]
    exact funext fun j => G2.rd (by omega)
  unfold GX12_fillsFits
  rw [x2, bv_some]
  obtain ⟨h3, e3, F3, out, done⟩ := fitM_L (h0 := g2) (hA := hA) (t := t) (u := m_rd h 334 21) (f := f) (K := fun h2 => bv (GX12_laysBack (m_wr h2 334 21 (m_rd h 334 21))) (fun h3 => some h3)) H A ((RunC.kr F0).tr (G2.kr (fun a j z => by unfold RdR; omega))) (m_rd hA 0 4 + 1).toNat FU 0 g2 (by unfold FU; omega) (by omega) (by omega) Fr.rf (fun i z => by rw [s2]) (fun r r0 r1 => by omega)
  obtain ⟨g4, x4, G4, s4⟩ := laysBack_ok (h := m_wr h3 334 21 (m_rd h 334 21)) (S := m_rd hA 344) (fun i i0 i1 => by rw [rd_ne (by omega), F3.rd (by omega), kp i i0 i1, sg]) (fun j z => by rw [rd_ne (by omega)]; exact out j z)
  rw [e3, x4, bv_some]
  refine ⟨g4, rfl, Fr.back ?_ (by rw [s4, sg]) ?_, fun r r0 r1 => ?_⟩
  · exact (((G2.wk (fun a j z => by unfold BkP Scr; omega)).tr (F3.wk (fun a j z => z.1))).wr (Or.inr (Or.inr ⟨rfl, rfl⟩))).tr (G4.wk (fun a j z => Or.inr (Or.inl z.1)))
  · rw [G4.rd (by omega), rd_eq rfl rfl]
  · obtain ⟨d1, d2, d3⟩ := done r r0 r1
    unfold FitR
    rw [G4.rd (by omega), rd_ne (by omega)]
    refine ⟨d1, d2, fun z1 z2 i i0 i1 => ?_⟩
    rw [G4.rd (by omega), rd_ne (by omega)]
    exact d3 z1 z2 i i0 i1
theorem FitR.p {f : Int → Int × WF} {S : Int → Int} {t r : Int} {h : MH} (R : FitR f S t h r) : m_rd h 352 r = 0 ↔ ruP f S (r - 1) = false := by
  obtain ⟨a, b, _⟩ := R
  unfold ruP
  by_cases c : alQ (f (r - 1)).2 (beg S) 0
  · rw [dec_t c]
    have := b.2 c
    exact ⟨fun z => by omega, fun z => absurd z (by decide)⟩
  · rw [dec_f c]
    exact ⟨fun _ => rfl, fun _ => a.elim id (fun z => absurd (b.1 z) c)⟩
theorem ruM_L {h : MH} {p : Int → Bool} {u N : Int} {K : Int → Int → MH → Option (Int × MH)} (N1 : N ≤ 6) (hp : ∀ r, 0 ≤ r → r ≤ N → (m_rd h 352 r = 0 ↔ p (r - 1) = false)) : ∀ (n m g : Nat), n < g → (n : Int) + m = N + 1 → GX12_ruled_L36 u K g (cntF p m ((n : Int) - 1)) (leF p m ((n : Int) - 1)) ((n : Int) - 1) h = K (cntF p (n + m) (-1)) (leF p (n + m) (-1)) h := by
  intro n
  induction n with
  | zero =>
    intro m g hf hv
    obtain ⟨q, rfl⟩ : ∃ q, g = q + 1 := ⟨g - 1, by omega⟩
    conv => lhs; unfold GX12_ruled_L36
    rw [if_pos (by omega), show 0 + m = m by omega]
    rfl
  | succ n ih =>
    intro m g hf hv
    obtain ⟨q, rfl⟩ : ∃ q, g = q + 1 := ⟨g - 1, by omega⟩
    have i := ih (m + 1) q (by omega) (by omega)
    have e1 : ((n + 1 : Nat) : Int) - 1 = (n : Int) := by omega
    have cm := cntF_b (p := p) m (n : Int)
    conv => lhs; unfold GX12_ruled_L36
    rw [e1, if_neg (by omega), gd_ib (by omega) (by omega), gd_nil, w32_id (x := (n : Int) + (-1)) (by omega) (by omega), w32_id (x := (n : Int) - 1) (by omega) (by omega), w32_id (x := cntF p m (n : Int) + 1) (by omega) (by omega), show n + 1 + m = n + (m + 1) by omega, ← i, show (n : Int) + -1 = (n : Int) - 1 by omega]
    have q' := hp n (by omega) (by omega)
    have e2 : (n : Int) - 1 + 1 = (n : Int) := by omega
    cases c : p ((n : Int) - 1) with
    | false =>
      rw [if_pos (q'.2 c), cnt_f c, le_f c, e2]
    | true =>
      rw [if_neg (fun z => by have := q'.1 z; rw [c] at this; exact absurd this (by decide)), cnt_t c, le_t c, e2, Int.add_comm 1]
theorem ruM_ok {h : MH} {p : Int → Bool} {u N : Int} (N0 : 0 ≤ N) (N1 : N ≤ 6) (hp : ∀ r, 0 ≤ r → r ≤ N → (m_rd h 352 r = 0 ↔ p (r - 1) = false)) : GX12_ruled_L36 u (fun w6 w7 h8 => if u = 0 then some (w6, h8) else some (w7, h8)) FU 0 (-2) N h = if u = 0 then some (cntF p (N + 1).toNat (-1), h) else some (leF p (N + 1).toNat (-1), h) := by
  have L := ruM_L (u := u) (K := fun w6 w7 h8 => if u = 0 then some (w6, h8) else some (w7, h8)) N1 hp (N + 1).toNat 0 FU (by unfold FU; omega) (by omega)
  rw [Nat.add_zero, show (((N + 1).toNat : Nat) : Int) - 1 = N by omega, cntF_0, leF_0] at L
  exact L
theorem c_ruled (u : Int) : Call (GX11_ruled u) (GX12_ruled u) := by
  intro h H
  obtain ⟨⟨d1, d2, d3, d4, d5, d6, d7⟩, w1, w2, w3, w4, w5, w6, w7⟩ := H.2.2.2.1
  have rb := H.2.2.1
  unfold GX11_ruled
  refine wi_be (hasFrame_ok H) ?_
  by_cases f1 : m_rd h 344 0 = 1
  · refine wi_in (by rw [t01]; exact fun z => z f1) ?_
    by_cases u0 : u < 0
    · refine wi_ip u0 (wi_ret ?_)
      unfold GX12_ruled
      exact wi_be isFrame_ok (wi_in (by rw [t01]; exact fun z => z f1) (wi_be in_ok (wi_ip (by rw [t01]; omega) (wi_ret ⟨rfl, H⟩))))
    refine wi_in u0 ?_
    by_cases u1 : 1 < u
    · refine wi_ip u1 (wi_ret ?_)
      unfold GX12_ruled
      exact wi_be isFrame_ok (wi_in (by rw [t01]; exact fun z => z f1) (wi_be in_ok (wi_ip (by rw [t01]; omega) (wi_ret ⟨rfl, H⟩))))
    refine wi_in u1 ?_
    have r0 := rb.2.1
    have r6 := rb.2.2.1
    obtain ⟨h3, e3, F3, R3⟩ := runBegin H
    obtain ⟨f, A⟩ := all_R H
    obtain ⟨h9, e9, F9⟩ := ruC_L (u := u) (f := f) (K := fun w4 w5 h6 => if u = 0 then some (w4, h6) else some (w5, h6)) H A (m_rd h 0 4 + 1).toNat FU 0 (-2) (-1) h3 (by unfold FU; omega) (by omega) (by omega) (by omega) (by omega) (Or.inl rfl) ⟨F3, R3.1, R3.2.2.1⟩
    rw [if_pos rfl, Int.zero_add] at e9
    refine wi_bw e3 (wi_rw e9 ?_)
    have s9 : m_rd h9 344 = m_rd h 344 := funext fun j => F9.rd (by unfold RunC; omega)
    have I9 : Inv h9 := H.scr (F9.wk (fun a j z => z.scr))
    obtain ⟨g5, x5, G5, done⟩ := fits_ok (t := 0) H A F9
    have I5 : Inv g5 := I9.scr G5
    have n5 : m_rd g5 334 2 = m_rd h 0 4 := by
      rw [G5.rd (by unfold Scr; omega), F9.rd (by unfold RunC; omega)]
      exact rb.1.symm
    have mm := ruM_ok (h := g5) (u := u) (p := ruP f (m_rd h 344)) (N := m_rd h 0 4) r0 r6 (fun r q0 q1 => (done r q0 q1).p)
    have mod : ∀ v, v = (if u = 0 then cntF (ruP f (m_rd h 344)) (m_rd h 0 4 + 1).toNat (-1) else leF (ruP f (m_rd h 344)) (m_rd h 0 4 + 1).toNat (-1)) → Wi (GX12_ruled u h9) (fun w h2 => v = w ∧ Inv h2) := by
      intro v hv
      unfold GX12_ruled
      refine wi_be isFrame_ok (wi_in (by rw [t01, s9]; exact fun z => z f1) (wi_be in_ok (wi_in (by rw [t01]; omega) (wi_bw x5 ?_))))
      rw [n5]
      refine wi_rw mm ?_
      refine wi_it (fun c => wi_ret ⟨?_, I5⟩) (fun c => wi_ret ⟨?_, I5⟩)
      · rw [hv, if_pos c]
      · rw [hv, if_neg c]
    refine wi_it (fun c => wi_ret (mod _ ?_)) (fun c => wi_ret (mod _ ?_))
    · rw [if_pos c]
    · rw [if_neg c]
  · refine wi_ip (by rw [t01]; exact f1) (wi_ret ?_)
    unfold GX12_ruled
    exact wi_be isFrame_ok (wi_ip (by rw [t01]; exact f1) (wi_ret ⟨rfl, H⟩))
