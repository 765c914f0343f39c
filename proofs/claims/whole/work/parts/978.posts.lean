/-! posts -/
def nxD (x : Int) : Int := (x * 1103515245 + 12345) % 2147483648
theorem nxD_b {x : Int} : 0 ≤ nxD x ∧ nxD x ≤ 2147483647 := by
  unfold nxD
  omega
theorem nxD_e {x : Int} (x0 : 0 ≤ x) (x1 : x ≤ 2147483647) : Int.tmod (m_w64 ((m_w64 (x * 1103515245)) + 12345)) 2147483648 = nxD x := by
  rw [w64_id (x := x * 1103515245) (by omega) (by omega), w64_id (by omega) (by omega), Int.tmod_eq_emod_of_nonneg (by omega)]
  rfl
theorem drawC_ok {h : MH} {x : Int} (hx : m_rd h 310 2 = x) (x0 : 0 ≤ x) (x1 : x ≤ 2147483647) : GX7_draw h = some (nxD x / 65536, m_wr h 310 2 (nxD x)) := by
  have b := nxD_b (x := x)
  unfold GX7_draw
  simp only [hl]
  rw [hx, nxD_e x0 x1, w32_id (x := nxD x) (by omega) (by omega), rd_eq rfl rfl, Int.tdiv_eq_ediv_of_nonneg b.1, w32_id (by omega) (by omega)]
theorem drawM_ok {h : MH} {x a : Int} (hx : m_rd h 334 37 = x) (x0 : 0 ≤ x) (x1 : x ≤ 2147483647) (a1 : 0 < a) (a2 : a ≤ 1000) : GX12_draw a h = some (nxD x / 65536 % a, m_wr h 334 37 (nxD x)) := by
  have b := nxD_b (x := x)
  have q0 : 0 ≤ nxD x / 65536 := by omega
  have e0 : 0 ≤ nxD x / 65536 % a := Int.emod_nonneg _ (by omega)
  have e1 : nxD x / 65536 % a < a := Int.emod_lt_of_pos _ a1
  unfold GX12_draw
  simp only [hl]
  rw [hx, nxD_e x0 x1, rd_eq rfl rfl, gd_cons (by omega), gd_nil, Int.tdiv_eq_ediv_of_nonneg b.1, w64_id (by omega) (by omega), Int.tmod_eq_emod_of_nonneg q0, w32_id (by omega) (by omega)]
/-- one turn, with a letter drawn or none -/
def psS (o : WF) (p : Int) (b : Int × (Int → Int)) : Int × (Int → Int) := if nxD b.1 / 65536 % 100 < p then (nxD (nxD b.1), paS o (cmS (nxD (nxD b.1) / 65536 % cod b.2) b.2)) else (nxD b.1, paS o b.2)
def psN (o : WF) (p : Int) : Nat → Int × (Int → Int) → Int × (Int → Int)
  | 0, b => b
  | m + 1, b => psN o p m (psS o p b)
theorem cm_k {c : Int} {S : Int → Int} (n0 : 0 ≤ S 12) (n1 : S 12 ≤ 20) {k : Int} (z : k < 12 ∨ k = 13 ∨ (14 ≤ k ∧ k < 26) ∨ 46 ≤ k) : cmS c S k = S k := by
  by_cases n : S 12 = 20
  · unfold cmS
    rw [if_pos n]
  · rw [cm_at n, if_neg (by omega), if_neg (by omega)]
theorem RuR.cm {h h' : MH} {c : Int} {S : Int → Int} {B : Int} (R : RuR h S) (H : Wf B S) (F : Fr (fun x _ => 314 ≤ x ∧ x < 322) h h') (W : WkR h' 314 (cmS c S)) : RuR h' (cmS c S) := by
  have n12 := H.2.2.1.1
  have k' : ∀ k, k < 12 ∨ k = 13 ∨ (14 ≤ k ∧ k < 26) ∨ 46 ≤ k → cmS c S k = S k := fun k z => cm_k n12.1 n12.2 z
  exact ⟨(R.1.cg (fun a j z1 z2 => F.rd (by omega))).sg (fun k z => k' k (by omega)), W, (R.2.2.1.cg F (fun a j z => by omega)).sg H.2.1.1.2 (k' 0 (by omega)) (k' 1 (by omega)) (k' 2 (by omega)) (k' 13 (by omega)) (fun i i0 i1 => ⟨k' _ (by omega), k' _ (by omega)⟩), by rw [F.2.1]; exact R.2.2.2⟩
theorem ps_wf {B p : Int} {o : WF} {b : Int × (Int → Int)} (H : Wf B b.2) (f1 : b.2 0 = 1) : Wf (B + 1) (psS o p b).2 ∧ (psS o p b).2 0 = 1 ∧ (0 ≤ (psS o p b).1 ∧ (psS o p b).1 ≤ 2147483647) ∧ ∀ k, k < 10 ∨ 82 ≤ k → (psS o p b).2 k = b.2 k := by
  have n12 := H.2.2.1.1
  have cb := cod_b H.1
  have cp := cb.2.2.2 f1
  unfold psS
  by_cases c : nxD b.1 / 65536 % 100 < p
  · rw [if_pos c]
    have W : Wf B (cmS (nxD (nxD b.1) / 65536 % cod b.2) b.2) := cm_wf H (Int.emod_nonneg _ (by omega)) (Int.emod_lt_of_pos _ cp)
    have k' : ∀ k, k < 10 ∨ 82 ≤ k → paS o (cmS (nxD (nxD b.1) / 65536 % cod b.2) b.2) k = b.2 k := fun k z => by
      rw [pa_k W (by omega), cm_k n12.1 n12.2 (by omega)]
    refine ⟨pa_wf W, ?_, nxD_b, k'⟩
    show paS o (cmS (nxD (nxD b.1) / 65536 % cod b.2) b.2) 0 = 1
    rw [k' 0 (by omega)]
    exact f1
  · rw [if_neg c]
    have k' : ∀ k, k < 10 ∨ 82 ≤ k → paS o b.2 k = b.2 k := fun k z => pa_k H (by omega)
    refine ⟨pa_wf H, ?_, nxD_b, k'⟩
    show paS o b.2 0 = 1
    rw [k' 0 (by omega)]
    exact f1
def StP (a j : Int) : Prop := StC a j ∨ (a = 310 ∧ j = 2)
theorem StP.kr {h g : MH} (F : Fr StP h g) : KeepR h g := F.kr (fun a j z => by unfold RdR; unfold StP StC at z; omega)
theorem psC_L {r n p : Int} {o : WF} {K : MH → Option MH} : ∀ (m f : Nat) (v B : Int) (b : Int × (Int → Int)) (h : MH), m < f → v + m = n → 0 ≤ v → n ≤ 1000 → RuR h b.2 → Wf B b.2 → B + m ≤ 100000 → b.2 0 = 1 → m_rd h 310 2 = b.1 → 0 ≤ b.1 → b.1 ≤ 2147483647 → RwC h r o → ∃ h', GX7_stepsWithPosts_L3 r n p K f v h = K h' ∧ Fr StP h h' ∧ RuR h' (psN o p m b).2 ∧ m_rd h' 310 2 = (psN o p m b).1 := by
  intro m
  induction m with
  | zero =>
    intro f v B b h hf hv v0 hn R H hB f1 hx x0 x1 Rw
    obtain ⟨q, rfl⟩ : ∃ q, f = q + 1 := ⟨f - 1, by omega⟩
    conv => enter [1, h', 1, 1]; unfold GX7_stepsWithPosts_L3
    rw [if_neg (by omega)]
    exact ⟨h, rfl, Fr.rf, R, hx⟩
  | succ m ih =>
    intro f v B b h hf hv v0 hn R H hB f1 hx x0 x1 Rw
    obtain ⟨q, rfl⟩ : ∃ q, f = q + 1 := ⟨f - 1, by omega⟩
    have n12 := H.2.2.1.1
    have cb := cod_b H.1
    have cp := cb.2.2.2 f1
    have nb := nxD_b (x := b.1)
    obtain ⟨p1, p2, p3, p4⟩ := ps_wf (p := p) (o := o) H f1
    conv => enter [1, h', 1, 1]; unfold GX7_stepsWithPosts_L3
    rw [if_pos (by omega), drawC_ok hx x0 x1, bd_some, w32_id (x := v + 1) (by omega) (by omega)]
    simp only [jn]
    have F1 : Fr StP h (m_wr h 310 2 (nxD b.1)) := Fr.wr Fr.rf (Or.inr ⟨rfl, rfl⟩)
    have R1 : RuR (m_wr h 310 2 (nxD b.1)) b.2 := R.cg (P := fun a j => a = 310 ∧ j = 2) (Fr.wr Fr.rf ⟨rfl, rfl⟩) (fun a j z => by omega)
    have nx : ∀ (h4 : MH) (S1 : Int → Int) (y : Int), Fr StP h h4 → RuR h4 S1 → Wf B S1 → m_rd h4 310 2 = y → psS o p b = (y, paS o S1) → ∃ h', bd (GX7_step r h4) (fun x6 h5 => GX7_stepsWithPosts_L3 r n p K q (v + 1) h5) = K h' ∧ Fr StP h h' ∧ RuR h' (psN o p (m + 1) b).2 ∧ m_rd h' 310 2 = (psN o p (m + 1) b).1 := by
      intro h4 S1 y F4 R4 W4 hy hp
      obtain ⟨h5, e5, F5, R5, _⟩ := step_ok R4 W4 (by omega) (Rw.kr (StP.kr F4))
      have F5' : Fr StP h h5 := F4.tr (F5.wk (fun a j z => Or.inl z))
      have y5 : m_rd h5 310 2 = y := by
        rw [F5.rd (by unfold StC; omega)]
        exact hy
      rw [e5, bd_some]
      obtain ⟨h', e', F', R', x'⟩ := ih q (v + 1) (B + 1) (psS o p b) h5 (by omega) (by omega) (by omega) hn (by rw [hp]; exact R5) p1 (by omega) p2 (by rw [hp]; exact y5) p3.1 p3.2 (Rw.kr (StP.kr F5'))
      exact ⟨h', e', F5'.tr F', R', x'⟩
    rw [Int.tmod_eq_emod_of_nonneg (a := nxD b.1 / 65536) (by omega)]
    by_cases c : nxD b.1 / 65536 % 100 < p
    · have nb2 := nxD_b (x := nxD b.1)
      rw [if_pos c, R1.1.2.2.2.1, if_pos cp, drawC_ok (x := nxD b.1) (rd_eq rfl rfl) nb.1 nb.2, bd_some]
      have F2 : Fr StP h (m_wr (m_wr h 310 2 (nxD b.1)) 310 2 (nxD (nxD b.1))) := F1.wr (Or.inr ⟨rfl, rfl⟩)
      have R2 : RuR (m_wr (m_wr h 310 2 (nxD b.1)) 310 2 (nxD (nxD b.1))) b.2 := R1.cg (P := fun a j => a = 310 ∧ j = 2) (Fr.wr Fr.rf ⟨rfl, rfl⟩) (fun a j z => by omega)
      rw [R2.1.2.2.2.1, gd_cons (by omega), gd_nil, Int.tmod_eq_emod_of_nonneg (a := nxD (nxD b.1) / 65536) (by omega)]
      obtain ⟨h4, e4, F4, W4⟩ := queue_ok (c := nxD (nxD b.1) / 65536 % cod b.2) R2.2.1 n12.1 n12.2 H.2.1.1.2
      rw [e4, bv_some]
      refine nx h4 (cmS (nxD (nxD b.1) / 65536 % cod b.2) b.2) (nxD (nxD b.1)) (F2.tr (F4.wk (fun a j z => by unfold StP StC; omega))) (R2.cm H F4 W4) (cm_wf H (Int.emod_nonneg _ (by omega)) (Int.emod_lt_of_pos _ cp)) (by rw [F4.rd (by omega), rd_eq rfl rfl]) ?_
      unfold psS
      rw [if_pos c]
    · rw [if_neg c]
      refine nx _ b.2 (nxD b.1) F1 R1 H (rd_eq rfl rfl) ?_
      unfold psS
      rw [if_neg c]
def StQ (a j : Int) : Prop := StM a j ∨ (a = 334 ∧ j = 37)
theorem StQ.kr {h g : MH} (F : Fr StQ h g) : KeepR h g := F.kr (fun a j z => by unfold RdR; unfold StQ StM at z; omega)
theorem psM_L {u1 u4 u5 u6 u7 n p k : Int} {o : WF} {K : MH → Option (Int × MH)} : ∀ (m f : Nat) (v B : Int) (b : Int × (Int → Int)) (h : MH), m < f → v + m = n → 0 ≤ v → n ≤ 1000 → m_rd h 344 = b.2 → Wf B b.2 → B + m ≤ 100000 → b.2 0 = 1 → m_rd h 334 37 = b.1 → 0 ≤ b.1 → b.1 ≤ 2147483647 → RwM h k o → m_rd h 334 21 = k → ∃ h', GX12_posts_L87 u1 n p u4 u5 u6 u7 K f v h = K h' ∧ Fr StQ h h' ∧ m_rd h' 344 = (psN o p m b).2 ∧ m_rd h' 334 37 = (psN o p m b).1 := by
  intro m
  induction m with
  | zero =>
    intro f v B b h hf hv v0 hn sg H hB f1 hx x0 x1 Rw hk
    obtain ⟨q, rfl⟩ : ∃ q, f = q + 1 := ⟨f - 1, by omega⟩
    conv => enter [1, h', 1, 1]; unfold GX12_posts_L87
    rw [if_neg (by omega)]
    exact ⟨h, rfl, Fr.rf, sg, hx⟩
  | succ m ih =>
    intro f v B b h hf hv v0 hn sg H hB f1 hx x0 x1 Rw hk
    obtain ⟨q, rfl⟩ : ∃ q, f = q + 1 := ⟨f - 1, by omega⟩
    have n12 := H.2.2.1.1
    have cb := cod_b H.1
    have cp := cb.2.2.2 f1
    have nb := nxD_b (x := b.1)
    obtain ⟨p1, p2, p3, p4⟩ := ps_wf (p := p) (o := o) H f1
    conv => enter [1, h', 1, 1]; unfold GX12_posts_L87
    rw [if_pos (by omega), drawM_ok hx x0 x1 (by decide) (by decide), bd_some, w32_id (x := v + 1) (by omega) (by omega)]
    simp only [jn]
    have F1 : Fr StQ h (m_wr h 334 37 (nxD b.1)) := Fr.wr Fr.rf (Or.inr ⟨rfl, rfl⟩)
    have s1 : m_rd (m_wr h 334 37 (nxD b.1)) 344 = b.2 := by rw [rd_fo (by decide), sg]
    have nx : ∀ (h4 : MH) (S1 : Int → Int) (y : Int), Fr StQ h h4 → m_rd h4 344 = S1 → Wf B S1 → m_rd h4 334 37 = y → psS o p b = (y, paS o S1) → ∃ h', bd (GX12_passes h4) (fun x6 h5 => GX12_posts_L87 u1 n p u4 u5 u6 u7 K q (v + 1) h5) = K h' ∧ Fr StQ h h' ∧ m_rd h' 344 = (psN o p (m + 1) b).2 ∧ m_rd h' 334 37 = (psN o p (m + 1) b).1 := by
      intro h4 S1 y F4 s4 W4 hy hp
      obtain ⟨h5, e5, F5, s5, _⟩ := passes_ok s4 W4 (by omega) (Rw.kr (StQ.kr F4)) (by rw [F4.rd (by unfold StQ StM; omega)]; exact hk)
      have F5' : Fr StQ h h5 := F4.tr (F5.wk (fun a j z => Or.inl z))
      have y5 : m_rd h5 334 37 = y := by
        rw [F5.rd (by unfold StM; omega)]
        exact hy
      rw [e5, bd_some]
      obtain ⟨h', e', F', s', x'⟩ := ih q (v + 1) (B + 1) (psS o p b) h5 (by omega) (by omega) (by omega) hn (by rw [hp]; exact s5) p1 (by omega) p2 (by rw [hp]; exact y5) p3.1 p3.2 (Rw.kr (StQ.kr F5')) (by rw [F5'.rd (by unfold StQ StM; omega)]; exact hk)
      exact ⟨h', e', F5'.tr F', s', x'⟩
    by_cases c : nxD b.1 / 65536 % 100 < p
    · have nb2 := nxD_b (x := nxD b.1)
      rw [if_pos c, codesMany_ok (by rw [s1]; exact H.1), bd_some, s1, drawM_ok (x := nxD b.1) (rd_eq rfl rfl) nb.1 nb.2 cp (by omega), bd_some]
      have F2 : Fr StQ h (m_wr (m_wr h 334 37 (nxD b.1)) 334 37 (nxD (nxD b.1))) := F1.wr (Or.inr ⟨rfl, rfl⟩)
      have s2 : m_rd (m_wr (m_wr h 334 37 (nxD b.1)) 334 37 (nxD (nxD b.1))) 344 = b.2 := by rw [rd_fo (by decide), s1]
      obtain ⟨h4, e4, F4, s4⟩ := comes_ok (c := nxD (nxD b.1) / 65536 % cod b.2) (h := m_wr (m_wr h 334 37 (nxD b.1)) 334 37 (nxD (nxD b.1))) (by rw [s2]; exact n12.1) (by rw [s2]; exact n12.2)
      rw [s2] at s4
      rw [e4, bv_some]
      refine nx h4 (cmS (nxD (nxD b.1) / 65536 % cod b.2) b.2) (nxD (nxD b.1)) (F2.tr (F4.wk (fun a j z => Or.inl (by unfold StM; omega)))) s4 (cm_wf H (Int.emod_nonneg _ (by omega)) (Int.emod_lt_of_pos _ cp)) (by rw [F4.rd (by omega), rd_eq rfl rfl]) ?_
      unfold psS
      rw [if_pos c]
    · rw [if_neg c]
      refine nx _ b.2 (nxD b.1) F1 s1 H (rd_eq rfl rfl) ?_
      unfold psS
      rw [if_neg c]
theorem psN_wf {p : Int} {o : WF} : ∀ (m : Nat) (B : Int) (b : Int × (Int → Int)), Wf B b.2 → b.2 0 = 1 → 0 ≤ b.1 → b.1 ≤ 2147483647 → Wf (B + m) (psN o p m b).2 ∧ (psN o p m b).2 0 = 1 ∧ (0 ≤ (psN o p m b).1 ∧ (psN o p m b).1 ≤ 2147483647) ∧ ∀ k, k < 10 ∨ 82 ≤ k → (psN o p m b).2 k = b.2 k := by
  intro m
  induction m with
  | zero =>
    intro B b H f1 x0 x1
    rw [show B + ((0 : Nat) : Int) = B by omega]
    exact ⟨H, f1, ⟨x0, x1⟩, fun _ _ => rfl⟩
  | succ m ih =>
    intro B b H f1 x0 x1
    obtain ⟨p1, p2, p3, p4⟩ := ps_wf (p := p) (o := o) H f1
    obtain ⟨q1, q2, q3, q4⟩ := ih (B + 1) (psS o p b) p1 p2 p3.1 p3.2
    rw [show B + ((m + 1 : Nat) : Int) = B + 1 + m by omega]
    exact ⟨q1, q2, q3, fun k z => by rw [← p4 k z]; exact q4 k z⟩
/-- all times: the draw, bags, lost -/
def poS (o : WF) (p : Int) (n : Nat) (S : Int → Int) (b : Int × Int × Int) : Int × Int × Int := ((psN o p n (b.1, S)).1, m_w32 (b.2.1 + sm6 (psN o p n (b.1, S)).2 20), m_w32 (b.2.2 + (psN o p n (b.1, S)).2 11))
def poN (o : WF) (p : Int) (n : Nat) (S : Int → Int) : Nat → Int × Int × Int → Int × Int × Int
  | 0, b => b
  | m + 1, b => poN o p n S m (poS o p n S b)
theorem poC_L {h0 : MH} {r t n p u : Int} {o : WF} {K : Int → Int → MH → Option (Int × MH)} (H : Inv h0) (f1 : m_rd h0 344 0 = 1) (t10 : t ≤ 10) (n0 : 0 ≤ n) (n60 : n ≤ 60) (Rw : RwC h0 r o) (rf : ∀ g, Fr RunC h0 g → GX11_ruleInForce g = some (r, g)) : ∀ (m f : Nat) (v : Int) (b : Int × Int × Int) (h : MH), m < f → v + m = t → 0 ≤ v → RB h0 h (m_rd h0 344) → m_rd h 310 2 = b.1 → 0 ≤ b.1 → b.1 ≤ 2147483647 → ∃ h', GX11_posts_L91 t n p u K f b.2.1 b.2.2 v h = K (poN o p n.toNat (m_rd h0 344) m b).2.1 (poN o p n.toNat (m_rd h0 344) m b).2.2 h' ∧ Fr RunC h0 h' := by
  obtain ⟨⟨d1, d2, d3, d4, d5, d6, d7⟩, w1, w2, w3, w4, w5, w6, w7⟩ := H.2.2.2.1
  intro m
  induction m with
  | zero =>
    intro f v b h hf hv v0 R hx x0 x1
    obtain ⟨q, rfl⟩ : ∃ q, f = q + 1 := ⟨f - 1, by omega⟩
    conv => enter [1, h', 1, 1]; unfold GX11_posts_L91
    rw [if_neg (by omega)]
    exact ⟨h, rfl, R.1⟩
  | succ m ih =>
    intro f v b h hf hv v0 R hx x0 x1
    obtain ⟨q, rfl⟩ : ∃ q, f = q + 1 := ⟨f - 1, by omega⟩
    conv => enter [1, h', 1, 1]; unfold GX11_posts_L91
    obtain ⟨h1, e1, F1, W1⟩ := copy10 (t := 314) (a := 32) (by omega) (WkR.cg (h := h0) (h' := h) d3 (fun a j z1 z2 => R.1.rd (by unfold RunC; omega))) w1.2.2.1.1.2 w1.2.1.1.2
    have R1 := R.st F1 (fun a j z => by unfold RunC; omega)
    have U1 : RuR h1 (m_rd h0 344) := R1.ru H.1 w1.2.1.1.2 W1 (fun _ _ => rfl) (fun _ _ _ => ⟨rfl, rfl⟩)
    have pw := psN_wf (p := p) (o := o) n.toNat 999 (b.1, m_rd h0 344) w1 f1 x0 x1
    obtain ⟨h4, e4, F4, R4, x4⟩ := psC_L (r := r) (n := n) (p := p) (o := o) (K := fun h1 => some h1) n.toNat FU 0 999 (b.1, m_rd h0 344) h1 (by unfold FU; omega) (by omega) (by omega) (by omega) U1 w1 (by omega) f1 (by rw [F1.rd (by omega)]; exact hx) x0 x1 (Rw.kr (RunC.kr R1.1))
    have RB4 : RB h0 h4 (m_rd h0 344) := R1.st F4 (fun a j z => by unfold StP StC at z; unfold RunC; omega)
    rw [if_pos (by omega), e1, bv_some, rf h1 R1.1, bd_some, show GX7_stepsWithPosts r n p h1 = some h4 from e4, bv_some, bags_all (w := 314) (by decide) R4.2.2.2 R4.2.1 pw.1.2.2.1, bd_some, R4.2.1.2.1, w32_id (x := v + 1) (by omega) (by omega)]
    exact ih q (v + 1) (poS o p n.toNat (m_rd h0 344) b) h4 (by omega) (by omega) (by omega) RB4 x4 pw.2.2.1.1 pw.2.2.1.2
theorem poM_L {h0 hA : MH} {t n p u k : Int} {o : WF} {K : Int → Int → MH → Option (Int × MH)} (H : Inv hA) (f1 : m_rd hA 344 0 = 1) (t10 : t ≤ 10) (n0 : 0 ≤ n) (n60 : n ≤ 60) (Rw : RwM h0 k o) (hk : m_rd h0 334 21 = k) (kp : ∀ i, 0 ≤ i → i < 72 → m_rd h0 350 i = m_rd hA 344 (10 + i)) : ∀ (m f : Nat) (v : Int) (b : Int × Int × Int) (h : MH), m < f → v + m = t → 0 ≤ v → Fr StQ h0 h → m_rd h 344 = m_rd hA 344 → m_rd h 334 37 = b.1 → 0 ≤ b.1 → b.1 ≤ 2147483647 → ∃ h', GX12_posts_L78 t n p u K f b.2.1 b.2.2 v h = K (poN o p n.toNat (m_rd hA 344) m b).2.1 (poN o p n.toNat (m_rd hA 344) m b).2.2 h' ∧ Fr StQ h0 h' ∧ m_rd h' 344 = m_rd hA 344 := by
  obtain ⟨_, w1, w2, w3, w4, w5, w6, w7⟩ := H.2.2.2.1
  intro m
  induction m with
  | zero =>
    intro f v b h hf hv v0 F sg hx x0 x1
    obtain ⟨q, rfl⟩ : ∃ q, f = q + 1 := ⟨f - 1, by omega⟩
    conv => enter [1, h', 1, 1]; unfold GX12_posts_L78
    rw [if_neg (by omega)]
    exact ⟨h, rfl, F, sg⟩
  | succ m ih =>
    intro f v b h hf hv v0 F sg hx x0 x1
    obtain ⟨q, rfl⟩ : ∃ q, f = q + 1 := ⟨f - 1, by omega⟩
    conv => enter [1, h', 1, 1]; unfold GX12_posts_L78
    have pw := psN_wf (p := p) (o := o) n.toNat 999 (b.1, m_rd hA 344) w1 f1 x0 x1
    obtain ⟨h1, e1, F1, s1, x1'⟩ := psM_L (u1 := t) (u4 := u) (u5 := b.2.1) (u6 := b.2.2) (u7 := v) (n := n) (p := p) (k := k) (o := o) (K := fun h1 => bd (GX12_sumOver 20 h1) (fun x3 h2 => bv (GX12_laysBack h2) (fun h4 => GX12_posts_L78 t n p u K q (m_w32 (b.2.1 + x3)) (m_w32 (b.2.2 + m_rd h2 344 11)) (m_w32 (v + 1)) h4))) n.toNat FU 0 999 (b.1, m_rd hA 344) h (by unfold FU; omega) (by omega) (by omega) (by omega) sg w1 (by omega) f1 hx x0 x1 (Rw.kr (StQ.kr F)) (by rw [F.rd (by unfold StQ StM; omega)]; exact hk)
    have F1' := F.tr F1
    obtain ⟨h4, e4, F4, s4⟩ := laysBack_ok (h := h1) (S := m_rd hA 344) (fun i i0 i1 => by rw [F1'.rd (by unfold StQ StM; omega), kp i i0 i1]) (fun j z => by rw [s1]; exact pw.2.2.2 j (by omega))
    rw [if_pos (by omega), e1, over_bg' s1 pw.1.1 pw.1.2.2.1, bd_some, e4, bv_some, s1, w32_id (x := v + 1) (by omega) (by omega)]
    exact ih q (v + 1) (poS o p n.toNat (m_rd hA 344) b) h4 (by omega) (by omega) (by omega) (F1'.tr (F4.wk (fun a j z => Or.inl (by unfold StM; omega)))) s4 (by rw [F4.rd (by omega)]; exact x1') pw.2.2.1.1 pw.2.2.1.2
theorem po_pre {a1 a2 a3 a4 : Int} {body : Int → Option (Int × MH)} : jn body (fun j1 => jn (j1 0) (fun j9 => if a1 < 1 then j9 else if 10 < a1 then j9 else if a2 < 1 then j9 else if 60 < a2 then j9 else if a3 < 0 then j9 else if 100 < a3 then j9 else if a4 < 0 then j9 else if 1 < a4 then j9 else j1 1)) = body (if (1 ≤ a1 ∧ a1 ≤ 10) ∧ (1 ≤ a2 ∧ a2 ≤ 60) ∧ (0 ≤ a3 ∧ a3 ≤ 100) ∧ (0 ≤ a4 ∧ a4 ≤ 1) then 1 else 0) := by
  simp only [jn]
  by_cases c : (1 ≤ a1 ∧ a1 ≤ 10) ∧ (1 ≤ a2 ∧ a2 ≤ 60) ∧ (0 ≤ a3 ∧ a3 ≤ 100) ∧ (0 ≤ a4 ∧ a4 ≤ 1)
  · rw [if_pos c, if_neg (by omega), if_neg (by omega), if_neg (by omega), if_neg (by omega), if_neg (by omega), if_neg (by omega), if_neg (by omega), if_neg (by omega)]
  · rw [if_neg c]
    split
    · rfl
    split
    · rfl
    split
    · rfl
    split
    · rfl
    split
    · rfl
    split
    · rfl
    split
    · rfl
    split
    · rfl
    exact absurd (by omega) c
theorem c_posts (a1 a2 a3 a4 : Int) : Call (GX11_posts a1 a2 a3 a4) (GX12_posts a1 a2 a3 a4) := by
  intro h H
  obtain ⟨⟨d1, d2, d3, d4, d5, d6, d7⟩, w1, w2, w3, w4, w5, w6, w7⟩ := H.2.2.2.1
  unfold GX11_posts
  refine wi_rw po_pre ?_
  refine wi_be (hasFrame_ok H) ?_
  by_cases f1 : m_rd h 344 0 = 1
  · refine wi_in (by rw [t01]; exact fun z => z f1) ?_
    by_cases c : (1 ≤ a1 ∧ a1 ≤ 10) ∧ (1 ≤ a2 ∧ a2 ≤ 60) ∧ (0 ≤ a3 ∧ a3 ≤ 100) ∧ (0 ≤ a4 ∧ a4 ≤ 1)
    · refine wi_in (by rw [t01]; exact fun z => z c) ?_
      obtain ⟨h3, r, o, e3, F3, R3, rf, _, RwM, Rw⟩ := runNow H
      have x3 : m_rd h3 20 4 = m_rd h 334 22 := by
        rw [F3.rd (by unfold RunC; omega)]
        exact d5
      refine wi_bw e3 ?_
      rw [x3]
      have Fa : Fr (fun a j => a = 310 ∧ j = 2) h3 (m_wr h3 310 2 (m_rd h 334 22)) := Fr.wr Fr.rf ⟨rfl, rfl⟩
      have RBa : RB h (m_wr h3 310 2 (m_rd h 334 22)) (m_rd h 344) := RB.st (h := h3) ⟨F3, R3.1, R3.2.2.1⟩ Fa (fun a j z => by unfold RunC; omega)
      obtain ⟨h9, e9, F9⟩ := poC_L (r := r) (t := a1) (n := a2) (p := a3) (u := a4) (o := o) (K := fun w6 w7 h8 => if a4 = 0 then some (w6, h8) else some (w7, h8)) H f1 (by omega) (by omega) (by omega) Rw rf a1.toNat FU 0 (m_rd h 334 22, 0, 0) (m_wr h3 310 2 (m_rd h 334 22)) (by unfold FU; omega) (by omega) (by omega) RBa (rd_eq rfl rfl) w6 w7.1
      refine wi_rw e9 ?_
      have s9 : m_rd h9 344 = m_rd h 344 := funext fun j => F9.rd (by unfold RunC; omega)
      have x9 : m_rd h9 334 22 = m_rd h 334 22 := F9.rd (by unfold RunC; omega)
      obtain ⟨g2, x2, G2, kp⟩ := keeps_ok (h := m_wr h9 334 37 (m_rd h9 334 22))
      have kp' : ∀ i, 0 ≤ i → i < 72 → m_rd g2 350 i = m_rd h 344 (10 + i) := fun i i0 i1 => by
        rw [kp i i0 i1, rd_ne (by omega), s9]
      have s2 : m_rd g2 344 = m_rd h 344 := by
        rw [← s9]
        exact funext fun j => by rw [G2.rd (by omega), rd_ne (by omega)]
      have Kg : KeepR h g2 := (RunC.kr F9).tr ((Fr.kr (P := fun a j => a = 334 ∧ j = 37) (Fr.wr Fr.rf ⟨rfl, rfl⟩) (fun a j z => by unfold RdR; omega)).tr (G2.kr (fun a j z => by unfold RdR; omega)))
      obtain ⟨g3, y3, G3, s3⟩ := poM_L (h0 := g2) (hA := h) (t := a1) (n := a2) (p := a3) (u := a4) (k := m_rd h 334 21) (o := o) (K := fun w12 w13 h14 => if a4 = 0 then some (w12, h14) else some (w13, h14)) H f1 (by omega) (by omega) (by omega) (RwM.kr Kg) (by rw [G2.rd (by omega), rd_ne (by omega), F9.rd (by unfold RunC; omega)]) kp' a1.toNat FU 0 (m_rd h 334 22, 0, 0) g2 (by unfold FU; omega) (by omega) (by omega) Fr.rf s2 (by rw [G2.rd (by omega), rd_eq rfl rfl, x9]) w6 w7.1
      have I3 : Inv g3 := by
        refine H.scr (Fr.back ?_ s3 ?_)
        · exact (((F9.wk (fun a j z => RunC.bk z)).wr (by unfold BkP Scr; omega)).tr (G2.wk (fun a j z => by unfold BkP Scr; omega))).tr (G3.wk (fun a j z => z.elim (fun y => y.bk) (fun y => by unfold BkP Scr; omega)))
        · rw [G3.rd (by unfold StQ StM; omega), G2.rd (by omega), rd_ne (by omega), F9.rd (by unfold RunC; omega)]
      have mod : ∀ v, v = (if a4 = 0 then (poN o a3 a2.toNat (m_rd h 344) a1.toNat (m_rd h 334 22, 0, 0)).2.1 else (poN o a3 a2.toNat (m_rd h 344) a1.toNat (m_rd h 334 22, 0, 0)).2.2) → Wi (GX12_posts a1 a2 a3 a4 h9) (fun w h2 => v = w ∧ Inv h2) := by
        intro v hv
        unfold GX12_posts
        refine wi_be isFrame_ok (wi_in (by rw [t01, s9]; exact fun z => z f1) (wi_be in_ok (wi_in (by rw [t01]; omega) (wi_be in_ok (wi_in (by rw [t01]; omega) (wi_be in_ok (wi_in (by rw [t01]; omega) (wi_be in_ok (wi_in (by rw [t01]; omega) (wi_bw x2 (wi_rw y3 ?_)))))))))))
        refine wi_it (fun q => wi_ret ⟨?_, I3⟩) (fun q => wi_ret ⟨?_, I3⟩)
        · rw [hv, if_pos q]
        · rw [hv, if_neg q]
      refine wi_it (fun q => wi_ret (mod _ ?_)) (fun q => wi_ret (mod _ ?_))
      · rw [if_pos q]
      · rw [if_neg q]
    · refine wi_ip (by rw [t01]; exact c) (wi_ret ?_)
      unfold GX12_posts
      refine wi_be isFrame_ok (wi_in (by rw [t01]; exact fun z => z f1) (wi_be in_ok ?_))
      refine wi_it (fun _ => wi_ret ⟨rfl, H⟩) (fun q1 => wi_be in_ok ?_)
      refine wi_it (fun _ => wi_ret ⟨rfl, H⟩) (fun q2 => wi_be in_ok ?_)
      refine wi_it (fun _ => wi_ret ⟨rfl, H⟩) (fun q3 => wi_be in_ok (wi_ip ?_ (wi_ret ⟨rfl, H⟩)))
      rw [t01] at q1 q2 q3 ⊢
      omega
  · refine wi_ip (by rw [t01]; exact f1) (wi_ret ?_)
    unfold GX12_posts
    exact wi_be isFrame_ok (wi_ip (by rw [t01]; exact f1) (wi_ret ⟨rfl, H⟩))
