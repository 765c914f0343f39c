/-! the clause and the whole text, read by the model -/
theorem fcl_40 {B T : Int → Int} {n p k : Int} (K : knd B n (sk B n p) k) (k0 : k ≠ 0) : fcl B n 40 p T = .inl (1 + 8 * sk B n p + 4) := by
  rw [fcl_k K, if_neg k0, if_neg (show ¬ ((40 : Int) = 0) by decide), if_neg (show ¬ ((1 : Int) ≤ 40 ∧ (40 : Int) < 40) by decide), if_neg (show ¬ (((1 : Int) ≤ 40 ∧ (40 : Int) < 40) ∧ T 4 < 12) by omega), if_neg (show ¬ (((1 : Int) ≤ 40 ∧ (40 : Int) < 40) ∧ T 5 < 12) by omega)]
  split
  · rfl
  split
  · rfl
  split
  · rfl
  · rfl
theorem knd_e (B : Int → Int) (n q : Int) : ∃ k, knd B n q k := by
  by_cases w1 : wdp B n q (-10)
  · exact ⟨1, Or.inl ⟨rfl, w1⟩⟩
  by_cases w2 : wdp B n q (-11)
  · exact ⟨2, Or.inr (Or.inl ⟨rfl, w1, w2⟩)⟩
  by_cases w3 : wdp B n q (-12)
  · exact ⟨3, Or.inr (Or.inr (Or.inl ⟨rfl, w1, w2, w3⟩))⟩
  by_cases w4 : wdp B n q (-13)
  · exact ⟨4, Or.inr (Or.inr (Or.inr (Or.inl ⟨rfl, w1, w2, w3, w4⟩)))⟩
  · exact ⟨0, Or.inr (Or.inr (Or.inr (Or.inr ⟨rfl, w1, w2, w3, w4⟩)))⟩
theorem MS.l {B T : Int → Int} {n p c v : Int} {h : MH} (M : MS h B n p c T) : MS (m_wr h 334 14 v) B n p v T := by
  obtain ⟨t, hp, z, e11, e14, eT, p0, p1⟩ := M
  have F : Fr (fun a j => a = 334 ∧ j = 14) h (m_wr h 334 14 v) := Fr.wr Fr.rf ⟨rfl, rfl⟩
  refine ⟨t.fr F (fun a j z => by omega), ?_, ?_, ?_, rd_eq rfl rfl, ?_, p0, p1⟩
  · rw [F.rd (by omega)]
    exact hp
  · rw [F.rd (by omega)]
    exact z
  · rw [F.rd (by omega)]
    exact e11
  · rw [← eT]
    exact funext (fun j => F.rd (by omega))
theorem clauseM {B T : Int → Int} {n p c : Int} {h : MH} (b : BB B n) (M : MS h B n p c T) (w : TW c T) (c0 : 0 ≤ c) (c1 : c ≤ 40) : ∃ x h', GX12_clauseHere h = some (x, h') ∧ Fr FdT h h' ∧ OutM h' B n x (c + 1) (fcl B n c p T) := by
  obtain ⟨k, K⟩ := knd_e B n (sk B n p)
  have p0 := M.2.2.2.2.2.2.1
  have sb := sk_b (B := B) b.2.1 p0 M.2.2.2.2.2.2.2
  obtain ⟨h1, e1, F1, M1⟩ := seeMS b M
  obtain ⟨x2, h2, e2, F2, M2, hx⟩ := frameWordM b M1 (sk_i b.2.1 p0) K
  have G2 : Fr FdT h h2 := (F1.tr F2).wk (fun _ _ z => z.fdm)
  unfold GX12_clauseHere
  simp only [jn]
  rw [e1, bd_some, M1.2.2.2.1, if_pos rfl]
  simp only [if_neg (show ¬ ((1 : Int) = 0) by decide)]
  rw [e2, bd_some, M1.2.1, M2.2.2.2.2.1]
  by_cases k0 : k = 0
  · rw [if_pos k0] at hx
    rw [if_pos hx, fcl_k K, if_pos k0]
    obtain ⟨x, h', e', F', o'⟩ := failMS (k := 0) (C := c + 1) b M2 (show 0 ≤ sk B n p by omega) sb.2 (by omega) (by omega)
    rw [e']
    exact ⟨x, h', rfl, G2.tr F', o'⟩
  · rw [if_neg k0] at hx
    rw [if_neg (by omega)]
    by_cases z : c = 40
    · rw [if_pos z]
      rw [z] at M2 ⊢
      rw [fcl_40 K k0]
      obtain ⟨x, h', e', F', o'⟩ := failMS (k := 4) (C := 40 + 1) b M2 (show 0 ≤ sk B n p by omega) sb.2 (by omega) (by omega)
      rw [e']
      exact ⟨x, h', rfl, G2.tr F', o'⟩
    · rw [if_neg z, w32_id (x := c + 1) (by omega) (by omega)]
      obtain ⟨x, h', e', F', o'⟩ := lineM b (M2.l (v := c + 1)) (sk_i b.2.1 p0) rfl K k0 w c0 (by omega)
      rw [e', bd_some, gd_cons o'.gt, gd_nil]
      exact ⟨x, h', rfl, (Fr.wr G2 (Or.inl ⟨rfl, by omega⟩)).tr F', o'⟩
def EndL (g : MH) (B : Int → Int) (n y : Int) (R : PR) : Prop := match R with
  | .inl f => 0 < f ∧ ((y = 0 ∧ m_rd g 334 9 = f) ∨ (y = 1 ∧ ∃ q c T, MS g B n q c T ∧ sk B n q = q ∧ bya B n q ≠ -1 ∧ f = 1 + 8 * q + 0))
  | .inr r => y = 1 ∧ (∃ c, 1 ≤ c ∧ MS g B n r.1 c r.2) ∧ sk B n r.1 = r.1 ∧ bya B n r.1 = -1
theorem MS.p {B T : Int → Int} {n p q c : Int} {h : MH} (M : MS h B n p c T) (q0 : 0 ≤ q) (q1 : q ≤ n) : MS (m_wr h 334 8 q) B n q c T := M.mv (Fr.wr Fr.rf ⟨rfl, rfl⟩) (rd_eq rfl rfl) q0 q1
theorem parM_L {B : Int → Int} {n : Int} {K : Int → MH → Option (Int × MH)} (b : BB B n) : ∀ (m f : Nat) (c p x : Int) (T : Int → Int) (h : MH), m + 1 < f → c + m = 40 → 0 ≤ c → OutM h B n x (c + 1) (fcl B n c p T) → ∃ y g, GX12_readsAll_L35 K f x h = K y g ∧ Fr FdT h g ∧ EndL g B n y (fpa B n (m + 1) c p T) := by
  intro m
  induction m with
  | zero =>
    intro f c p x T h hf hc c0 o
    obtain ⟨q, rfl⟩ : ∃ q, f = q + 1 := ⟨f - 1, by omega⟩
    have hc' : c = 40 := by omega
    subst hc'
    obtain ⟨g, eg⟩ := fcl_lt (B := B) (n := n) (p := p) (T := T)
    unfold fpa
    rw [eg] at o ⊢
    conv => enter [1, y, 1, g, 1, 1]; unfold GX12_readsAll_L35
    rw [if_pos o.1]
    exact ⟨x, h, rfl, Fr.rf, o.2.2, Or.inl ⟨o.1, o.2.1⟩⟩
  | succ m ih =>
    intro f c p x T h hf hc c0 o
    obtain ⟨q, rfl⟩ : ∃ q, f = q + 1 := ⟨f - 1, by omega⟩
    have fe : fpa B n (m + 1 + 1) c p T = match fcl B n c p T with
      | .inl f => .inl f
      | .inr r => if bya B n (sk B n r.1) = -1 then .inr (sk B n r.1, r.2) else if bya B n (sk B n r.1) = 59 then fpa B n (m + 1) (c + 1) (sk B n r.1 + 1) r.2 else .inl (1 + 8 * sk B n r.1 + 0) := rfl
    rw [fe]
    conv => enter [1, y, 1, g, 1, 1]; unfold GX12_readsAll_L35
    generalize fcl B n c p T = R at o ⊢
    match R, o with
    | .inl g, o =>
      rw [if_pos o.1]
      exact ⟨x, h, rfl, Fr.rf, o.2.2, Or.inl ⟨o.1, o.2.1⟩⟩
    | .inr r, o =>
      obtain ⟨x1, M, w⟩ := o
      have p0 := M.2.2.2.2.2.2.1
      have sb := sk_b (B := B) b.2.1 p0 M.2.2.2.2.2.2.2
      obtain ⟨h1, e1, F1, M1⟩ := seeMS b M
      have G1 : Fr FdT h h1 := F1.wk (fun _ _ z => z.fdm)
      rw [if_neg (by omega), e1, bd_some]
      show ∃ y g, _ ∧ Fr FdT h g ∧ EndL g B n y (if bya B n (sk B n r.1) = -1 then .inr (sk B n r.1, r.2) else if bya B n (sk B n r.1) = 59 then fpa B n (m + 1) (c + 1) (sk B n r.1 + 1) r.2 else .inl (1 + 8 * sk B n r.1 + 0))
      by_cases c2 : bya B n (sk B n r.1) = 59
      · have qn : sk B n r.1 < n := by
          by_cases y : sk B n r.1 < n
          · exact y
          · have := bya_o (B := B) (n := n) (q := sk B n r.1) (by omega)
            omega
        have b1 := b.2.1
        obtain ⟨x2, h2, e2, F2, o2⟩ := clauseM b (M1.p (q := sk B n r.1 + 1) (by omega) (by omega)) w (by omega) (by omega)
        rw [if_pos c2, M1.2.1, w32_id (x := sk B n r.1 + 1) (by omega) (by omega), e2, bd_some, if_neg (by omega), if_pos c2]
        obtain ⟨y, g, e3, F3, o3⟩ := ih q (c + 1) (sk B n r.1 + 1) x2 r.2 h2 (by omega) (by omega) (by omega) o2
        exact ⟨y, g, e3, (Fr.wr G1 (Or.inl ⟨rfl, by omega⟩)).tr (F2.tr F3), o3⟩
      · rw [if_neg c2, if_neg c2]
        refine ⟨x, h1, rfl, G1, ?_⟩
        by_cases c3 : bya B n (sk B n r.1) = -1
        · rw [if_pos c3]
          exact ⟨x1, ⟨c + 1, by omega, M1⟩, sk_i b.2.1 p0, c3⟩
        · rw [if_neg c3]
          exact ⟨by omega, Or.inr ⟨x1, _, _, _, M1, sk_i b.2.1 p0, c3, rfl⟩⟩
def RaM (a j : Int) : Prop := FdT a j ∨ (a = 334 ∧ (j = 1 ∨ j = 12)) ∨ a = 337
def EndM (h : MH) (x : Int) (R : PR) : Prop := match R with
  | .inl f => x = 0 ∧ m_rd h 334 9 = f
  | .inr r => x = 1 ∧ m_rd h 340 = r.2
theorem readsAllM {B T : Int → Int} {n : Int} {h : MH} (b : BB B n) (t : TpM h B n) (e11 : m_rd h 334 11 = 6) (eT : m_rd h 340 = T) (w : TW 0 T) : ∃ x h', GX12_readsAll h = some (x, h') ∧ Fr RaM h h' ∧ m_rd h' 334 1 = 0 ∧ EndM h' x (fpa B n 41 0 0 T) := by
  have b0 := b.1
  have b1 := b.2.1
  unfold GX12_readsAll
  rw [e11, gd_ib (by decide) (by decide), gd_nil]
  simp only [hl, jn]
  have F0 : Fr (fun a j => (a = 334 ∧ (j = 8 ∨ j = 9 ∨ j = 12 ∨ j = 14)) ∨ a = 337) h (m_wr (m_wr (m_wr (m_wr (m_wr h 337 6 0) 334 14 0) 334 8 0) 334 9 0) 334 12 0) := Fr.wr (Fr.wr (Fr.wr (Fr.wr (Fr.wr Fr.rf (by omega)) (by omega)) (by omega)) (by omega)) (by omega)
  have M0 : MS (m_wr (m_wr (m_wr (m_wr (m_wr h 337 6 0) 334 14 0) 334 8 0) 334 9 0) 334 12 0) B n 0 0 T := by
    refine ⟨t.fr F0 (fun a j z => by omega), ?_, ?_, ?_, ?_, ?_, Int.le_refl _, b0⟩
    · rw [rd_ne (by omega), rd_ne (by omega), rd_eq rfl rfl]
    · rw [rd_ne (by omega), rd_eq rfl rfl]
    · rw [F0.rd (by omega)]
      exact e11
    · rw [rd_ne (by omega), rd_ne (by omega), rd_ne (by omega), rd_eq rfl rfl]
    · rw [← eT]
      exact funext (fun j => F0.rd (by omega))
  generalize m_wr (m_wr (m_wr (m_wr (m_wr h 337 6 0) 334 14 0) 334 8 0) 334 9 0) 334 12 0 = g0 at F0 M0 ⊢
  obtain ⟨x1, h1, e1, F1, o1⟩ := clauseM b M0 w (by omega) (by omega)
  rw [e1, bd_some]
  obtain ⟨y, g, e2, F2, o2⟩ := parM_L (K := fun w4 h5 => if w4 = 0 then (if (m_rd (m_wr h5 334 1 0) 334 9) = 0 then some (1, (m_wr h5 334 1 0)) else some (0, (m_wr h5 334 1 0))) else bd (GX12_see h5) (fun x9 h8 => if x9 = (-1) then (if (m_rd (m_wr h8 334 1 0) 334 9) = 0 then some (1, (m_wr h8 334 1 0)) else some (0, (m_wr h8 334 1 0))) else bd (GX12_fails 0 (m_rd h8 334 8) h8) (fun x11 h10 => if (m_rd (m_wr h10 334 1 0) 334 9) = 0 then some (1, (m_wr h10 334 1 0)) else some (0, (m_wr h10 334 1 0))))) b 40 FU 0 0 x1 T h1 (by decide) (by decide) (by decide) o1
  rw [e2]
  have G : Fr RaM h g := (F0.wk (fun a j z => by unfold RaM FdT; omega)).tr ((F1.wk (fun a j z => Or.inl z)).tr (F2.wk (fun a j z => Or.inl z)))
  have w1 : ∀ {g' : MH}, Fr RaM h g' → Fr RaM h (m_wr g' 334 1 0) := fun z => Fr.wr z (Or.inr (Or.inl ⟨rfl, Or.inl rfl⟩))
  have c1 : ∀ {g' : MH}, m_rd (m_wr g' 334 1 0) 334 9 = m_rd g' 334 9 := rd_ne (by omega)
  generalize fpa B n (40 + 1) 0 0 T = R at o2 ⊢
  match R, o2 with
  | .inl f, o2 =>
    obtain ⟨f0, o2⟩ := o2
    rcases o2 with ⟨y0, z⟩ | ⟨y1, q, c, U, M, hs, nb, ef⟩
    · rw [if_pos y0, c1, z, if_neg (by omega)]
      exact ⟨0, _, rfl, w1 G, rd_eq rfl rfl, rfl, by rw [c1]; exact z⟩
    · obtain ⟨h2, e3, F3, M3⟩ := seeMS b M
      have q0 := M.2.2.2.2.2.2.1
      have q1 := M.2.2.2.2.2.2.2
      rw [hs] at e3 M3
      rw [if_neg (by omega), e3, bd_some, if_neg nb, M3.2.1, failM q0 (by omega) (by omega) (by omega) M3.2.2.1, bd_some, c1, rd_eq rfl rfl, if_neg (by omega)]
      refine ⟨0, _, rfl, w1 (Fr.wr (G.tr (F3.wk (fun a j z => Or.inl z.fdm))) (Or.inl (Or.inl ⟨rfl, by omega⟩))), rd_eq rfl rfl, rfl, ?_⟩
      rw [c1, rd_eq rfl rfl, ef]
  | .inr r, o2 =>
    obtain ⟨y1, ⟨c, cc, M⟩, hs, nb⟩ := o2
    obtain ⟨h2, e3, F3, M3⟩ := seeMS b M
    rw [hs] at e3 M3
    rw [if_neg (by omega), e3, bd_some, if_pos nb, c1, M3.2.2.1, if_pos rfl]
    refine ⟨1, _, rfl, w1 (G.tr (F3.wk (fun a j z => Or.inl z.fdm))), rd_eq rfl rfl, rfl, ?_⟩
    rw [← M3.2.2.2.2.2.1]
    exact funext (fun j => rd_ne (by omega))
