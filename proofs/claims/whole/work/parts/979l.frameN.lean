/-! the plan clause, the clause, the text, read by the model -/
theorem bg_46 {T : Int → Int} {v : Int} (a : 0 ≤ T 5 ∧ T 5 ≤ 12) (v0 : 0 ≤ v) (v1 : v < T 4) : beg T (46 + 3 * v) = T (88 + 3 * v) ∧ beg T (47 + 3 * v) = T (89 + 3 * v) := by
  constructor
  · rw [bg_at, if_neg (by omega), if_neg (by omega), if_neg (by omega), if_pos (by omega), show 88 + (46 + 3 * v - 46) = 88 + 3 * v by omega]
  · rw [bg_at, if_neg (by omega), if_neg (by omega), if_neg (by omega), if_pos (by omega), show 88 + (47 + 3 * v - 46) = 89 + 3 * v by omega]
theorem ph91_L {d p : Int} {T : Int → Int} {h : MH} {K : Int → MH → Option (Int × MH)} (eT : m_rd h 340 = T) (a5 : 0 ≤ T 5 ∧ T 5 ≤ 12) (a4 : T 4 ≤ 12) : ∀ (m f : Nat) (v : Int), m < f → v + m = T 4 → 0 ≤ v → GX12_isPlanHere_L91 d p K f v h = K (nmG (beg T) d p m v) h := by
  intro m
  induction m with
  | zero =>
    intro f v hf hv v0
    obtain ⟨q, rfl⟩ : ∃ q, f = q + 1 := ⟨f - 1, by omega⟩
    unfold GX12_isPlanHere_L91
    rw [eT, if_neg (by omega)]
    rfl
  | succ m ih =>
    intro f v hf hv v0
    obtain ⟨q, rfl⟩ : ∃ q, f = q + 1 := ⟨f - 1, by omega⟩
    obtain ⟨g1, g2⟩ := bg_46 (v := v) a5 v0 (by omega)
    unfold GX12_isPlanHere_L91
    rw [eT, if_pos (by omega), w32_id (x := 3 * v) (by omega) (by omega), w32_id (x := 88 + 3 * v) (by omega) (by omega), gd_ib (by omega) (by omega), gd_nil, w32_id (x := 88 + 3 * v + 1) (by omega) (by omega), w32_id (x := v + 1) (by omega) (by omega), show 88 + 3 * v + 1 = 89 + 3 * v by omega]
    by_cases c1 : T (88 + 3 * v) = d
    · rw [if_pos c1, gd_ib (by omega) (by omega), gd_nil]
      by_cases c2 : T (89 + 3 * v) = p
      · rw [if_pos c2, nm_h (by rw [g1]; exact c1) (by rw [g2]; exact c2)]
      · rw [if_neg c2, ih q (v + 1) (by omega) (by omega) (by omega), nm_m (by rw [g2]; exact fun z => c2 z.2)]
    · rw [if_neg c1, ih q (v + 1) (by omega) (by omega) (by omega), nm_m (by rw [g1]; exact fun z => c1 z.1)]
theorem planM {B T : Int → Int} {n q c a : Int} {h : MH} (b : BB B n) (M : MS h B n q (c + 1) T) (hw : wdp B n q (-12)) (w : TW c T) (c0 : 1 ≤ c) (h4 : T 4 < 12) : ∃ x h', GX12_isPlanHere a h = some (x, h') ∧ Fr FdT h h' ∧ OutM h' B n x (c + 1) (fen B n (q + 4) T) := by
  obtain ⟨t0, tb, Wb⟩ := w.b c0
  have wb := w.1
  unfold GX12_isPlanHere fen
  obtain ⟨h0, e0, F0, M0⟩ := passMS b M wd_12 hw
  rw [show t_len (-12) = 4 by decide] at M0
  have G0 : Fr FdT h h0 := F0.wk (fun _ _ z => z.fdm)
  rw [M.2.2.2.2.2.1, if_neg (by omega), e0, bv_some, M0.2.2.2.2.2.1]
  generalize q + 4 = p at M0 ⊢
  by_cases o1 : nok B n 0 (T 2) p
  · obtain ⟨h1, e1, F1, M1, v1⟩ := nokM b M0 o1
    have l1 := o1.2.2
    have G1 : Fr FdT h h1 := G0.tr (F1.wk (fun _ _ z => z.fdm))
    have pb := pw_b (b := T 1) (n := nvl B n p) (by omega) (by omega) (by omega) (by omega)
    rw [nst_t o1, e1, bd_some, if_neg (by decide), v1, M1.2.2.2.2.2.1, power_ok (by omega) (by omega) (by omega) (by omega), bd_some, w32_id (x := pw (T 1) (nvl B n p) - 1) (by omega) (by omega)]
    by_cases o2 : nok B n 0 (pw (T 1) (nvl B n p) - 1) (npo B n p)
    · obtain ⟨h2, e2, F2, M2, v2⟩ := nokM b M1 o2
      have l2 := o2.2.2
      have G2 : Fr FdT h h2 := G1.tr (F2.wk (fun _ _ z => z.fdm))
      rw [nst_t o2, e2, bd_some, if_neg (by decide), v2, M2.2.2.2.2.2.1, w32_id (x := T 3 - 1) (by omega) (by omega)]
      by_cases o3 : nok B n 0 (T 3 - 1) (npo B n (npo B n p))
      · obtain ⟨h3, e3, F3, M3, v3⟩ := nokM b M2 o3
        have l3 := o3.2.2
        have G3 : Fr FdT h h3 := G2.tr (F3.wk (fun _ _ z => z.fdm))
        rw [nst_t o3, e3, bd_some, if_neg (by decide)]
        generalize nvl B n p = d at l1 l2 pb ⊢
        generalize nvl B n (npo B n p) = x at l2 ⊢
        generalize nvl B n (npo B n (npo B n p)) = t at l3 v3 ⊢
        rw [ph91_L M3.2.2.2.2.2.1 (by omega) (by omega) (T 4).toNat FU 0 (by unfold FU; omega) (by omega) (by omega)]
        have nb := tn_num (d := d) (p := x) w.1.1
        have tw := tn_TW (d := d) (p := x) (t := t) w c0 h4 (by omega) (by omega) (by omega) (by omega) (by omega) (by omega)
        have en : nmG (beg T) d x (T 4).toNat 0 = num (beg T) d x := by
          unfold num
          rw [beg_13]
        have es : ∀ k, tnS d x t T k = ups (ups (ups (if num (beg T) d x = T 4 then ups T 4 (T 4 + 1) else T) (88 + 3 * num (beg T) d x) d) (89 + 3 * num (beg T) d x) x) (90 + 3 * num (beg T) d x) t k := fun k => by
          unfold tnS
          by_cases k1 : k = 90 + 3 * num (beg T) d x
          · rw [if_pos k1, up_eq k1]
          rw [if_neg k1, up_k k1]
          by_cases k2 : k = 89 + 3 * num (beg T) d x
          · rw [if_pos k2, up_eq k2]
          rw [if_neg k2, up_k k2]
          by_cases k3 : k = 88 + 3 * num (beg T) d x
          · rw [if_pos k3, up_eq k3]
          rw [if_neg k3, up_k k3]
          by_cases k5 : num (beg T) d x = T 4
          · rw [if_pos k5, if_pos k5]
            by_cases k4 : k = 4
            · rw [if_pos k4, up_eq k4]
            · rw [if_neg k4, up_k k4]
          · rw [if_neg k5, if_neg k5]
            by_cases k4 : k = 4
            · rw [if_pos k4, k4]
            · rw [if_neg k4]
        have es' := funext es
        rw [en]
        generalize num (beg T) d x = e at nb es' ⊢
        simp only [jn, hl]
        rw [M3.2.2.2.2.2.1, w32_id (x := T 4 + 1) (by omega) (by omega), w32_id (x := 3 * e) (by omega) (by omega), w32_id (x := 88 + 3 * e) (by omega) (by omega), w32_id (x := 88 + 3 * e + 1) (by omega) (by omega), w32_id (x := 88 + 3 * e + 2) (by omega) (by omega), show 88 + 3 * e + 1 = 89 + 3 * e by omega, show 88 + 3 * e + 2 = 90 + 3 * e by omega]
        have fin : ∀ g : MH, ∀ U : Int → Int, MS g B n (npo B n (npo B n (npo B n p))) (c + 1) U → Fr FdT h g → m_rd g 334 10 = t → ups (ups (ups U (88 + 3 * e) d) (89 + 3 * e) x) (90 + 3 * e) t = tnS d x t T → ∃ x1 h', gd [IB (88 + 3 * e) 136] (gd [IB (89 + 3 * e) 136] (gd [IB (90 + 3 * e) 136] (some ((1 : Int), m_wr (m_wr (m_wr g 340 (88 + 3 * e) d) 340 (89 + 3 * e) x) 340 (90 + 3 * e) (m_rd (m_wr (m_wr g 340 (88 + 3 * e) d) 340 (89 + 3 * e) x) 334 10))))) = some (x1, h') ∧ Fr FdT h h' ∧ OutM h' B n x1 (c + 1) (.inr (npo B n (npo B n (npo B n p)), tnS d x t T)) := by
          intro g U Mg Fg tg eu
          rw [gd_ib (by omega) (by omega), gd_nil, gd_ib (by omega) (by omega), gd_nil, gd_ib (by omega) (by omega), gd_nil, rd_a (by decide), rd_a (by decide), tg]
          have M5 := ((Mg.w (i := 88 + 3 * e) (v := d)).w (i := 89 + 3 * e) (v := x)).w (i := 90 + 3 * e) (v := t)
          rw [eu] at M5
          exact ⟨1, _, rfl, Fr.wr (Fr.wr (Fr.wr Fg (Or.inr rfl)) (Or.inr rfl)) (Or.inr rfl), rfl, M5, tw⟩
        by_cases k5 : e = T 4
        · rw [if_pos k5] at es' ⊢
          exact fin _ _ (M3.w (i := 4) (v := T 4 + 1)) (Fr.wr G3 (Or.inr rfl)) (by rw [rd_a (by decide)]; exact v3) es'.symm
        · rw [if_neg k5] at es' ⊢
          exact fin _ _ M3 G3 v3 es'.symm
      · obtain ⟨h3, e3, F3, a1, a2⟩ := nnoM b M2 o3
        rw [nst_f o3, e3, bd_some, if_pos rfl]
        exact ⟨0, h3, rfl, G2.tr (F3.wk (fun _ _ z => z.fdm)), rfl, a1, a2⟩
    · obtain ⟨h2, e2, F2, a1, a2⟩ := nnoM b M1 o2
      rw [nst_f o2, e2, bd_some, if_pos rfl]
      exact ⟨0, h2, rfl, G1.tr (F2.wk (fun _ _ z => z.fdm)), rfl, a1, a2⟩
  · obtain ⟨h1, e1, F1, a1, a2⟩ := nnoM b M0 o1
    rw [nst_f o1, e1, bd_some, if_pos rfl]
    exact ⟨0, h1, rfl, G0.tr (F1.wk (fun _ _ z => z.fdm)), rfl, a1, a2⟩
theorem frameWordM {B T : Int → Int} {n q c k : Int} {h : MH} (b : BB B n) (M : MS h B n q c T) (hs : sk B n q = q) (K : knd B n q k) : ∃ x h', GX12_isFrameWord h = some (x, h') ∧ Fr F348 h h' ∧ MS h' B n q c T ∧ x = (if k = 0 then 0 else 1) := by
  unfold GX12_isFrameWord
  obtain ⟨x1, h1, e1, F1, M1, a1, b1⟩ := isWordMS b M hs wd_10
  rw [e1, bd_some]
  rcases K with ⟨k1, w1⟩ | ⟨k1, w1, w2⟩ | ⟨k1, w1, w2, w3⟩ | ⟨k1, w1, w2, w3, w4⟩ | ⟨k1, w1, w2, w3, w4⟩
  · have := a1 w1
    rw [if_neg (by omega)]
    exact ⟨1, h1, rfl, F1, M1, by rw [k1]; rfl⟩
  all_goals
    rw [if_pos (b1 w1)]
    obtain ⟨x2, h2, e2, F2, M2, a2, b2⟩ := isWordMS b M1 hs wd_11
    rw [e2, bd_some]
  · have := a2 w2
    rw [if_neg (by omega)]
    exact ⟨1, h2, rfl, F1.tr F2, M2, by rw [k1]; rfl⟩
  all_goals
    rw [if_pos (b2 w2)]
    obtain ⟨x3, h3, e3, F3, M3, a3, b3⟩ := isWordMS b M2 hs wd_12
    rw [e3, bd_some]
  · have := a3 w3
    rw [if_neg (by omega)]
    exact ⟨1, h3, rfl, F1.tr (F2.tr F3), M3, by rw [k1]; rfl⟩
  all_goals
    rw [if_pos (b3 w3)]
    obtain ⟨x4, h4, e4, F4, M4, a4, b4⟩ := isWordMS b M3 hs wd_13
    rw [e4, bd_some]
  · have := a4 w4
    rw [if_neg (by omega)]
    exact ⟨1, h4, rfl, F1.tr (F2.tr (F3.tr F4)), M4, by rw [k1]; rfl⟩
  · rw [if_pos (b4 w4)]
    exact ⟨0, h4, rfl, F1.tr (F2.tr (F3.tr F4)), M4, by rw [k1]; rfl⟩
theorem lineM {B T : Int → Int} {n p q c k : Int} {h : MH} (b : BB B n) (M : MS h B n q (c + 1) T) (hs : sk B n q = q) (hq : q = sk B n p) (K : knd B n q k) (k0 : k ≠ 0) (w : TW c T) (c0 : 0 ≤ c) (c1 : c < 40) : ∃ x h', GX12_frameLineHere q h = some (x, h') ∧ Fr FdT h h' ∧ OutM h' B n x (c + 1) (fcl B n c p T) := by
  have K' : knd B n (sk B n p) k := by
    rw [← hq]
    exact K
  have t01 : (c = 0 → T 0 = 0) ∧ (c ≠ 0 → T 0 = 1) := ⟨fun z => w.2.1 z 0 (by omega) (by omega), fun z => (w.2.2 (by omega)).1⟩
  have wb := w.1
  have bad : ∀ g, MS g B n q (c + 1) T → Fr FdT h g → ∃ x h', gd [GT 0] (some ((0 : Int), m_wr g 334 9 (1 + 8 * q + 4))) = some (x, h') ∧ Fr FdT h h' ∧ OutM h' B n x (c + 1) (.inl (1 + 8 * q + 4)) := fun g Mg Fg => by
    rw [gd_cons (show GT 0 from Or.inl rfl), gd_nil]
    have := Mg.2.2.2.2.2.2.1
    exact ⟨0, _, rfl, Fr.wr Fg (Or.inl ⟨rfl, by omega⟩), rfl, rd_eq rfl rfl, by omega⟩
  have b1' := b.2.1
  have q0 := M.2.2.2.2.2.2.1
  have q1 := M.2.2.2.2.2.2.2
  have fl : ∀ g, MS g B n q (c + 1) T → GX12_fails 4 q g = some (0, m_wr g 334 9 (1 + 8 * q + 4)) := fun g Mg => failM q0 (by omega) (by omega) (by omega) Mg.2.2.1
  rw [fcl_k K', ← hq, if_neg k0]
  unfold GX12_frameLineHere
  obtain ⟨x1, h1, e1, F1, M1, a1, b1⟩ := isWordMS b M hs wd_10
  have G1 : Fr FdT h h1 := F1.wk (fun _ _ z => z.fdm)
  rw [e1, bd_some]
  by_cases w1 : wdp B n q (-10)
  · have k1 : k = 1 := by
      rcases K with ⟨k1, w1⟩ | ⟨k1, w1', _⟩ | ⟨k1, w1', _⟩ | ⟨k1, w1', _⟩ | ⟨k1, w1', _⟩
      · exact k1
      all_goals exact absurd w1 w1'
    have := a1 w1
    rw [if_neg (by omega), if_pos k1]
    by_cases z : c = 0
    · rw [if_pos z]
      obtain ⟨x, h', e', F', o'⟩ := shapeM (a := q) b M1 w1 (by rw [← z]; exact w) (by omega)
      rw [e', bd_some, gd_cons o'.gt, gd_nil]
      exact ⟨x, h', rfl, G1.tr F', o'⟩
    · rw [if_neg z]
      unfold GX12_isFrameHere
      rw [M1.2.2.2.2.2.1, if_pos (by have := t01.2 z; omega), fl h1 M1, bd_some, gd_cons (show GT 0 from Or.inl rfl), gd_nil, bd_some]
      exact bad h1 M1 G1
  have k1 : k ≠ 1 := by
    rcases K with ⟨k1, w1'⟩ | ⟨k1, _⟩ | ⟨k1, _⟩ | ⟨k1, _⟩ | ⟨k1, _⟩
    · exact absurd w1' w1
    all_goals omega
  rw [if_pos (b1 w1), if_neg k1, M1.2.2.2.2.2.1]
  by_cases z : c = 0
  · rw [if_pos (t01.1 z), fl h1 M1, bd_some]
    have e : (if k = 2 then (if 1 ≤ c ∧ c < 40 then frm B n (q + 4) T else .inl (1 + 8 * q + 4)) else if k = 3 then (if (1 ≤ c ∧ c < 40) ∧ T 4 < 12 then fen B n (q + 4) T else .inl (1 + 8 * q + 4)) else (if (1 ≤ c ∧ c < 40) ∧ T 5 < 12 then flt B n (q + 6) T else .inl (1 + 8 * q + 4)) : PR) = .inl (1 + 8 * q + 4) := by
      rw [if_neg (show ¬ (1 ≤ c ∧ c < 40) by omega), if_neg (show ¬ ((1 ≤ c ∧ c < 40) ∧ T 4 < 12) by omega), if_neg (show ¬ ((1 ≤ c ∧ c < 40) ∧ T 5 < 12) by omega)]
      split
      · rfl
      split
      · rfl
      · rfl
    rw [e]
    exact bad h1 M1 G1
  have cc : 1 ≤ c ∧ c < 40 := by omega
  have tt := t01.2 z
  rw [if_neg (by omega), if_pos cc]
  obtain ⟨x2, h2, e2, F2, M2, a2, b2⟩ := isWordMS b M1 hs wd_11
  have G2 : Fr FdT h h2 := G1.tr (F2.wk (fun _ _ z => z.fdm))
  rw [e2, bd_some]
  by_cases w2 : wdp B n q (-11)
  · have k2 : k = 2 := by
      rcases K with ⟨k1', _⟩ | ⟨k1, _⟩ | ⟨k1, _, w2', _⟩ | ⟨k1, _, w2', _⟩ | ⟨k1, _, w2', _⟩
      · exact absurd k1' k1
      · exact k1
      all_goals exact absurd w2 w2'
    have := a2 w2
    rw [if_neg (by omega), if_pos k2]
    obtain ⟨x, h', e', F', o'⟩ := roomM b M2 w2 w cc.1
    rw [e', bd_some, gd_cons o'.gt, gd_nil]
    exact ⟨x, h', rfl, G2.tr F', o'⟩
  have k2 : k ≠ 2 := by
    rcases K with ⟨k1, _⟩ | ⟨k1, _, w2'⟩ | ⟨k1, _⟩ | ⟨k1, _⟩ | ⟨k1, _⟩
    · omega
    · exact absurd w2' w2
    all_goals omega
  rw [if_pos (b2 w2), if_neg k2]
  obtain ⟨x3, h3, e3, F3, M3, a3, b3⟩ := isWordMS b M2 hs wd_12
  have G3 : Fr FdT h h3 := G2.tr (F3.wk (fun _ _ z => z.fdm))
  rw [e3, bd_some]
  by_cases w3 : wdp B n q (-12)
  · have k3 : k = 3 := by
      rcases K with ⟨k1', _⟩ | ⟨k1', _⟩ | ⟨k1, _⟩ | ⟨k1, _, _, w3', _⟩ | ⟨k1, _, _, w3', _⟩
      · exact absurd k1' k1
      · exact absurd k1' k2
      · exact k1
      all_goals exact absurd w3 w3'
    have := a3 w3
    rw [if_neg (by omega), if_pos k3]
    by_cases y : T 4 < 12
    · rw [if_pos ⟨cc, y⟩]
      obtain ⟨x, h', e', F', o'⟩ := planM (a := q) b M3 w3 w cc.1 y
      rw [e', bd_some, gd_cons o'.gt, gd_nil]
      exact ⟨x, h', rfl, G3.tr F', o'⟩
    · rw [if_neg (fun z => y z.2)]
      unfold GX12_isPlanHere
      rw [M3.2.2.2.2.2.1, if_pos (by omega), fl h3 M3, bd_some, gd_cons (show GT 0 from Or.inl rfl), gd_nil, bd_some]
      exact bad h3 M3 G3
  have k3 : k ≠ 3 ∧ wdp B n q (-13) := by
    rcases K with ⟨k1', _⟩ | ⟨k1', _⟩ | ⟨k1, _, _, w3'⟩ | ⟨k1, _, _, _, w4'⟩ | ⟨k1, _⟩
    · exact absurd k1' k1
    · exact absurd k1' k2
    · exact absurd w3' w3
    · exact ⟨by omega, w4'⟩
    · exact absurd k1 k0
  rw [if_pos (b3 w3), if_neg k3.1]
  by_cases y : T 5 < 12
  · rw [if_pos ⟨cc, y⟩]
    obtain ⟨x, h', e', F', o'⟩ := letterM (a := q) b M3 k3.2 w cc.1 y
    rw [e', bd_some, gd_cons o'.gt, gd_nil]
    exact ⟨x, h', rfl, G3.tr F', o'⟩
  · rw [if_neg (fun z => y z.2)]
    unfold GX12_isLetterToldHere
    rw [M3.2.2.2.2.2.1, if_pos (by omega), fl h3 M3, bd_some, gd_cons (show GT 0 from Or.inl rfl), gd_nil, bd_some]
    exact bad h3 M3 G3
