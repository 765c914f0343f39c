/-! FRAME read by the model -/
def MS (h : MH) (B : Int → Int) (n p c : Int) (T : Int → Int) : Prop := TpM h B n ∧ m_rd h 334 8 = p ∧ m_rd h 334 9 = 0 ∧ m_rd h 334 11 = 6 ∧ m_rd h 334 14 = c ∧ m_rd h 340 = T ∧ 0 ≤ p ∧ p ≤ n
def FdT (a j : Int) : Prop := (a = 334 ∧ (j = 8 ∨ j = 9 ∨ j = 10 ∨ j = 14)) ∨ a = 340
def OutM (h : MH) (B : Int → Int) (n x : Int) (c : Int) (R : PR) : Prop := match R with
  | .inl f => x = 0 ∧ m_rd h 334 9 = f ∧ 0 < f
  | .inr r => x = 1 ∧ MS h B n r.1 c r.2 ∧ TW c r.2
theorem F3489.fdm {a j : Int} (z : F3489 a j) : FdT a j := by
  unfold F3489 at z
  unfold FdT
  omega
theorem F348.fdm {a j : Int} (z : F348 a j) : FdT a j := by
  unfold F348 at z
  unfold FdT
  omega
theorem nokM {B T : Int → Int} {n p lo hi c : Int} {h : MH} (b : BB B n) (M : MS h B n p c T) (ok : nok B n lo hi p) : ∃ h', GX12_numberHere lo hi h = some (1, h') ∧ Fr F3489 h h' ∧ MS h' B n (npo B n p) c T ∧ m_rd h' 334 10 = nvl B n p := by
  obtain ⟨t, hp, z, e11, e14, eT, p0, p1⟩ := M
  obtain ⟨x, h', e, F, a1, a2⟩ := numM (lo := lo) (hi := hi) b t hp p0 p1 z
  obtain ⟨x1, x2, x3, x4⟩ := a1 ok
  have nb := npo_b (B := B) b.2.1 p0 p1
  rw [x1] at e
  refine ⟨h', e, F, ⟨t.f3 F, x3, x4, ?_, ?_, ?_, by omega, by omega⟩, x2⟩
  · rw [F.rd (by unfold F3489; omega)]
    exact e11
  · rw [F.rd (by unfold F3489; omega)]
    exact e14
  · rw [← eT]
    exact funext (fun j => F.rd (by unfold F3489; omega))
theorem nnoM {B T : Int → Int} {n p lo hi c : Int} {h : MH} (b : BB B n) (M : MS h B n p c T) (no : ¬ nok B n lo hi p) : ∃ h', GX12_numberHere lo hi h = some (0, h') ∧ Fr F3489 h h' ∧ m_rd h' 334 9 = nfl B n p ∧ 0 < nfl B n p := by
  obtain ⟨t, hp, z, e11, e14, eT, p0, p1⟩ := M
  obtain ⟨x, h', e, F, a1, a2⟩ := numM (lo := lo) (hi := hi) b t hp p0 p1 z
  obtain ⟨x1, x2⟩ := a2 no
  have nb := npo_b (B := B) b.2.1 p0 p1
  rw [x1] at e
  exact ⟨h', e, F, x2, nb.2.2⟩
theorem MS.w {B T : Int → Int} {n p c i v : Int} {h : MH} (M : MS h B n p c T) : MS (m_wr h 340 i v) B n p c (ups T i v) := by
  obtain ⟨t, hp, z, e11, e14, eT, p0, p1⟩ := M
  have F : Fr (fun a _ => a = 340) h (m_wr h 340 i v) := Fr.wr Fr.rf rfl
  refine ⟨t.fr F (fun a j z => by omega), ?_, ?_, ?_, ?_, ?_, p0, p1⟩
  · rw [F.rd (by omega)]
    exact hp
  · rw [F.rd (by omega)]
    exact z
  · rw [F.rd (by omega)]
    exact e11
  · rw [F.rd (by omega)]
    exact e14
  · funext j
    by_cases k : j = i
    · rw [rd_eq rfl k, up_eq k]
    · rw [rd_ne (Or.inr k), up_k k, eT]
theorem cokM {B T : Int → Int} {n p lo hi c i : Int} {h : MH} (b : BB B n) (M : MS h B n p c T) (ok : nok B n lo hi p) (i0 : 0 ≤ i) (i1 : i < 136) : ∃ h', GX12_cellHere i lo hi h = some (1, h') ∧ Fr FdT h h' ∧ MS h' B n (npo B n p) c (ups T i (nvl B n p)) := by
  obtain ⟨h1, e1, F1, M1, v1⟩ := nokM b M ok
  unfold GX12_cellHere
  rw [e1, bd_some, if_neg (by decide), gd_ib i0 i1, gd_nil, v1]
  exact ⟨_, rfl, (F1.wk (fun _ _ z => z.fdm)).tr (Fr.wr Fr.rf (Or.inr rfl)), M1.w⟩
theorem cnoM {B T : Int → Int} {n p lo hi c i : Int} {h : MH} (b : BB B n) (M : MS h B n p c T) (no : ¬ nok B n lo hi p) : ∃ h', GX12_cellHere i lo hi h = some (0, h') ∧ Fr FdT h h' ∧ m_rd h' 334 9 = nfl B n p ∧ 0 < nfl B n p := by
  obtain ⟨h1, e1, F1, a1, a2⟩ := nnoM b M no
  unfold GX12_cellHere
  rw [e1, bd_some, if_pos rfl]
  exact ⟨_, rfl, F1.wk (fun _ _ z => z.fdm), a1, a2⟩
theorem MS.mv {B T : Int → Int} {n p q c : Int} {h h' : MH} (M : MS h B n p c T) (F : Fr F348 h h') (hq : m_rd h' 334 8 = q) (q0 : 0 ≤ q) (q1 : q ≤ n) : MS h' B n q c T := by
  obtain ⟨t, hp, z, e11, e14, eT, p0, p1⟩ := M
  refine ⟨t.fr F (fun a j z => by unfold F348 at z; omega), hq, ?_, ?_, ?_, ?_, q0, q1⟩
  · rw [F.rd (by unfold F348; omega)]
    exact z
  · rw [F.rd (by unfold F348; omega)]
    exact e11
  · rw [F.rd (by unfold F348; omega)]
    exact e14
  · rw [← eT]
    exact funext (fun j => F.rd (by unfold F348; omega))
theorem seeMS {B T : Int → Int} {n p c : Int} {h : MH} (b : BB B n) (M : MS h B n p c T) : ∃ h', GX12_see h = some (bya B n (sk B n p), h') ∧ Fr F348 h h' ∧ MS h' B n (sk B n p) c T := by
  obtain ⟨h', e, F, a⟩ := seeM b M.1 M.2.1 M.2.2.2.2.2.2.1 M.2.2.2.2.2.2.2
  have sb := sk_b (B := B) b.2.1 M.2.2.2.2.2.2.1 M.2.2.2.2.2.2.2
  have p0 := M.2.2.2.2.2.2.1
  exact ⟨h', e, F, M.mv F a (by omega) (by omega)⟩
theorem isWordMS {B T : Int → Int} {n q c a w : Int} {h : MH} (b : BB B n) (M : MS h B n q c T) (hs : sk B n q = q) (W : WD a w) : ∃ x h', GX12_isWord w h = some (x, h') ∧ Fr F348 h h' ∧ MS h' B n q c T ∧ (wdp B n q a → x = 1) ∧ (¬ wdp B n q a → x = 0) := by
  obtain ⟨x, h', e, x01, xi, F, hp'⟩ := isWordM (w := w) b M.1 M.2.1 M.2.2.2.2.2.2.1 M.2.2.2.2.2.2.2
  rw [hs] at xi hp'
  have wi := wd_iff b W M.2.2.2.2.2.2.1 M.2.2.2.2.2.2.2
  refine ⟨x, h', e, F, M.mv F hp' M.2.2.2.2.2.2.1 M.2.2.2.2.2.2.2, fun y => xi.2 (wi.1 y), fun y => ?_⟩
  have : x ≠ 1 := fun z => y (wi.2 (xi.1 z))
  omega
theorem passMS {B T : Int → Int} {n q c a w : Int} {h : MH} (b : BB B n) (M : MS h B n q c T) (W : WD a w) (hw : wdp B n q a) : ∃ h', GX12_passWord h = some h' ∧ Fr F348 h h' ∧ MS h' B n (q + t_len a) c T := by
  obtain ⟨h', e, F, a1⟩ := passWordM b M.1 M.2.1 M.2.2.2.2.2.2.1 M.2.2.2.2.2.2.2
  have r := wd_run b W M.2.2.2.2.2.2.1 hw
  have rr := run_p (B := B) (q := q) isL_n b.2.1 M.2.2.2.2.2.2.1
  have := rr.2.1 M.2.2.2.2.2.2.2
  have q0 := M.2.2.2.2.2.2.1
  rw [r] at a1
  exact ⟨h', e, F, M.mv F a1 (by omega) (by omega)⟩
theorem failMS {B T : Int → Int} {n p q c k C : Int} {h : MH} (b : BB B n) (M : MS h B n p c T) (q0 : 0 ≤ q) (q1 : q ≤ n) (k0 : 0 ≤ k) (k1 : k ≤ 4) : ∃ x h', bd (GX12_fails k q h) (fun x10 h9 => gd [GT x10] (some (x10, h9))) = some (x, h') ∧ Fr FdT h h' ∧ OutM h' B n x C (.inl (1 + 8 * q + k)) := by
  have b1 := b.2.1
  rw [failM q0 (by omega) k0 k1 M.2.2.1, bd_some, gd_cons (show GT 0 from Or.inl rfl), gd_nil]
  exact ⟨0, _, rfl, Fr.wr Fr.rf (Or.inl ⟨rfl, by omega⟩), rfl, rd_eq rfl rfl, by omega⟩
theorem OutM.gt {h : MH} {B : Int → Int} {n x c : Int} {R : PR} (o : OutM h B n x c R) : GT x := by
  match R, o with
  | .inl f, o => exact Or.inl o.1
  | .inr r, o => exact Or.inr o.1
def fivS (v : Int) (T : Int → Int) : Int → Int := fun k => if 82 + v ≤ k ∧ k < 88 then 5 else T k
theorem fh55_L {B : Int → Int} {n p c : Int} {K : MH → Option (Int × MH)} : ∀ (m f : Nat) (v : Int) (T : Int → Int) (h : MH), m < f → v + m = 6 → 0 ≤ v → MS h B n p c T → ∃ h', GX12_isFrameHere_L55 K f v h = K h' ∧ Fr FdT h h' ∧ MS h' B n p c (fivS v T) := by
  intro m
  induction m with
  | zero =>
    intro f v T h hf hv v0 M
    obtain ⟨q, rfl⟩ : ∃ q, f = q + 1 := ⟨f - 1, by omega⟩
    conv => enter [1, h', 1, 1]; unfold GX12_isFrameHere_L55
    rw [if_neg (by omega)]
    refine ⟨h, rfl, Fr.rf, ?_⟩
    rw [show fivS v T = T from funext (fun k => if_neg (by omega))]
    exact M
  | succ m ih =>
    intro f v T h hf hv v0 M
    obtain ⟨q, rfl⟩ : ∃ q, f = q + 1 := ⟨f - 1, by omega⟩
    conv => enter [1, h', 1, 1]; unfold GX12_isFrameHere_L55
    rw [if_pos (by omega), w32_id (x := 82 + v) (by omega) (by omega), gd_ib (by omega) (by omega), gd_nil, w32_id (x := v + 1) (by omega) (by omega)]
    obtain ⟨h', e', F', M'⟩ := ih q (v + 1) _ _ (by omega) (by omega) (by omega) (M.w (i := 82 + v) (v := 5))
    refine ⟨h', e', Fr.tr (Fr.wr Fr.rf (Or.inr rfl)) F', ?_⟩
    have e : fivS (v + 1) (ups T (82 + v) 5) = fivS v T := by
      funext k
      unfold fivS
      by_cases c1 : 82 + (v + 1) ≤ k ∧ k < 88
      · rw [if_pos c1, if_pos (by omega)]
      · rw [if_neg c1]
        by_cases c2 : k = 82 + v
        · rw [up_eq c2, if_pos (by omega)]
        · rw [up_k c2, if_neg (by omega)]
    rw [← e]
    exact M'
theorem shapeM {B T : Int → Int} {n q c a : Int} {h : MH} (b : BB B n) (M : MS h B n q c T) (hw : wdp B n q (-10)) (w : TW 0 T) (hc : c = 1) : ∃ x h', GX12_isFrameHere a h = some (x, h') ∧ Fr FdT h h' ∧ OutM h' B n x c (fsh B n (q + 5) T) := by
  have t0 : T 0 = 0 := w.2.1 rfl 0 (by omega) (by omega)
  unfold GX12_isFrameHere fsh
  rw [M.2.2.2.2.2.1, if_neg (by omega)]
  obtain ⟨h0, e0, F0, M0⟩ := passMS b M wd_10 hw
  rw [show t_len (-10) = 5 by decide] at M0
  rw [e0, bv_some]
  have G0 : Fr FdT h h0 := F0.wk (fun _ _ z => z.fdm)
  generalize q + 5 = p at M0 ⊢
  by_cases o1 : nok B n 2 4 p
  · obtain ⟨h1, e1, F1, M1⟩ := cokM (i := 1) b M0 o1 (by decide) (by decide)
    have l1 := o1.2.2
    rw [nst_t o1, e1, bd_some, if_neg (by decide)]
    by_cases o2 : nok B n 1 4 (npo B n p)
    · obtain ⟨h2, e2, F2, M2⟩ := cokM (i := 2) b M1 o2 (by decide) (by decide)
      have l2 := o2.2.2
      rw [nst_t o2, e2, bd_some, if_neg (by decide)]
      by_cases o3 : nok B n 1 6 (npo B n (npo B n p))
      · obtain ⟨h3, e3, F3, M3⟩ := cokM (i := 3) b M2 o3 (by decide) (by decide)
        have l3 := o3.2.2
        rw [nst_t o3, e3, bd_some, if_neg (by decide)]
        obtain ⟨h4, e4, F4, M4⟩ := fh55_L (K := fun h8 => some (1, (m_wr h8 340 0 1))) 6 FU 0 _ h3 (by decide) (by decide) (by decide) M3
        have M5 := M4.w (i := 0) (v := 1)
        have es : ups (fivS 0 (ups (ups (ups T 1 (nvl B n p)) 2 (nvl B n (npo B n p))) 3 (nvl B n (npo B n (npo B n p))))) 0 1 = shS (nvl B n p) (nvl B n (npo B n p)) (nvl B n (npo B n (npo B n p))) T := by
          funext k
          unfold shS fivS
          by_cases k0 : k = 0
          · rw [up_eq k0, if_pos k0]
          rw [up_k k0, if_neg k0]
          by_cases k1 : k = 1
          · rw [if_neg (by omega), up_k (by omega), up_k (by omega), up_eq k1, if_pos k1]
          by_cases k2 : k = 2
          · rw [if_neg (by omega), up_k (by omega), up_eq k2, if_neg k1, if_pos k2]
          by_cases k3 : k = 3
          · rw [if_neg (by omega), up_eq k3, if_neg k1, if_neg k2, if_pos k3]
          rw [up_k k3, up_k k2, up_k k1, if_neg k1, if_neg k2, if_neg k3]
          by_cases k4 : 82 ≤ k ∧ k < 88
          · rw [if_pos k4, if_pos (by omega)]
          · rw [if_neg k4, if_neg (by omega)]
        rw [es] at M5
        rw [e4]
        obtain ⟨tw, bw⟩ := sh_TW (r := nvl B n p) (d := nvl B n (npo B n p)) (s := nvl B n (npo B n (npo B n p))) w (by omega) (by omega) (by omega) (by omega) (by omega) (by omega)
        exact ⟨1, _, rfl, G0.tr (F1.tr (F2.tr (F3.tr (F4.tr (Fr.wr Fr.rf (Or.inr rfl)))))), rfl, M5, by rw [hc]; exact tw⟩
      · obtain ⟨h3, e3, F3, a1, a2⟩ := cnoM (i := 3) b M2 o3
        rw [nst_f o3, e3, bd_some, if_pos rfl]
        exact ⟨0, h3, rfl, G0.tr (F1.tr (F2.tr F3)), rfl, a1, a2⟩
    · obtain ⟨h2, e2, F2, a1, a2⟩ := cnoM (i := 2) b M1 o2
      rw [nst_f o2, e2, bd_some, if_pos rfl]
      exact ⟨0, h2, rfl, G0.tr (F1.tr F2), rfl, a1, a2⟩
  · obtain ⟨h1, e1, F1, a1, a2⟩ := cnoM (i := 1) b M0 o1
    rw [nst_f o1, e1, bd_some, if_pos rfl]
    exact ⟨0, h1, rfl, G0.tr F1, rfl, a1, a2⟩
theorem roomM {B T : Int → Int} {n q c : Int} {h : MH} (b : BB B n) (M : MS h B n q (c + 1) T) (hw : wdp B n q (-11)) (w : TW c T) (c0 : 1 ≤ c) : ∃ x h', GX12_isRoomHere h = some (x, h') ∧ Fr FdT h h' ∧ OutM h' B n x (c + 1) (frm B n (q + 4) T) := by
  obtain ⟨t0, tb, Wb⟩ := w.b c0
  unfold GX12_isRoomHere frm
  obtain ⟨h0, e0, F0, M0⟩ := passMS b M wd_11 hw
  rw [show t_len (-11) = 4 by decide] at M0
  have G0 : Fr FdT h h0 := F0.wk (fun _ _ z => z.fdm)
  rw [e0, bv_some, M0.2.2.2.2.2.1, w32_id (x := T 3 - 1) (by omega) (by omega)]
  generalize q + 4 = p at M0 ⊢
  by_cases o1 : nok B n 0 (T 3 - 1) p
  · obtain ⟨h1, e1, F1, M1, v1⟩ := nokM b M0 o1
    have l1 := o1.2.2
    have G1 : Fr FdT h h1 := G0.tr (F1.wk (fun _ _ z => z.fdm))
    rw [nst_t o1, e1, bd_some, if_neg (by decide), v1, w32_id (x := 82 + nvl B n p) (by omega) (by omega)]
    by_cases o2 : nok B n 1 20 (npo B n p)
    · obtain ⟨h2, e2, F2, M2⟩ := cokM (i := 82 + nvl B n p) b M1 o2 (by omega) (by omega)
      have l2 := o2.2.2
      rw [nst_t o2, e2, bd_some, gd_cons (show GT 1 from Or.inr rfl), gd_nil]
      exact ⟨1, h2, rfl, G1.tr F2, rfl, M2, rm_TW w c0 (by omega) (by omega) (by omega) (by omega)⟩
    · obtain ⟨h2, e2, F2, a1, a2⟩ := cnoM (i := 82 + nvl B n p) b M1 o2
      rw [nst_f o2, e2, bd_some, gd_cons (show GT 0 from Or.inl rfl), gd_nil]
      exact ⟨0, h2, rfl, G1.tr F2, rfl, a1, a2⟩
  · obtain ⟨h1, e1, F1, a1, a2⟩ := nnoM b M0 o1
    rw [nst_f o1, e1, bd_some, if_pos rfl]
    exact ⟨0, h1, rfl, G0.tr (F1.wk (fun _ _ z => z.fdm)), rfl, a1, a2⟩
theorem letterM {B T : Int → Int} {n q c a : Int} {h : MH} (b : BB B n) (M : MS h B n q (c + 1) T) (hw : wdp B n q (-13)) (w : TW c T) (c0 : 1 ≤ c) (h5 : T 5 < 12) : ∃ x h', GX12_isLetterToldHere a h = some (x, h') ∧ Fr FdT h h' ∧ OutM h' B n x (c + 1) (flt B n (q + 6) T) := by
  obtain ⟨t0, tb, Wb⟩ := w.b c0
  have wb := w.1
  have pb := pw_b (b := T 1) (n := T 2) (by omega) (by omega) (by omega) (by omega)
  unfold GX12_isLetterToldHere flt
  obtain ⟨h0, e0, F0, M0⟩ := passMS b M wd_13 hw
  rw [show t_len (-13) = 6 by decide] at M0
  have G0 : Fr FdT h h0 := F0.wk (fun _ _ z => z.fdm)
  rw [M.2.2.2.2.2.1, if_neg (by omega), e0, bv_some, M0.2.2.2.2.2.1, power_ok (by omega) (by omega) (by omega) (by omega), bd_some, w32_id (x := 124 + T 5) (by omega) (by omega), w32_id (x := pw (T 1) (T 2) - 1) (by omega) (by omega)]
  generalize q + 6 = p at M0 ⊢
  by_cases o1 : nok B n 0 (pw (T 1) (T 2) - 1) p
  · obtain ⟨h1, e1, F1, M1⟩ := cokM (i := 124 + T 5) b M0 o1 (by omega) (by omega)
    have l1 := o1.2.2
    rw [nst_t o1, e1, bd_some, if_neg (by decide), M1.2.2.2.2.2.1, up_k (by omega), w32_id (x := T 5 + 1) (by omega) (by omega)]
    exact ⟨1, _, rfl, G0.tr (F1.tr (Fr.wr Fr.rf (Or.inr rfl))), rfl, M1.w, lt_TW w c0 h5 (by omega) (by omega)⟩
  · obtain ⟨h1, e1, F1, a1, a2⟩ := cnoM (i := 124 + T 5) b M0 o1
    rw [nst_f o1, e1, bd_some, if_pos rfl]
    exact ⟨0, h1, rfl, G0.tr F1, rfl, a1, a2⟩
