/-! RULE: the text read by the model -/
noncomputable def rcc (B : Int → Int) (n c : Int) (x : RST) : Int ⊕ (RST × RST) := if dec (wdp B n (sk B n x.1) (-14)) = true then (if c < 12 then rcl B n (mvp (sk B n x.1 + 4) x) else .inl (1 + 8 * sk B n x.1 + 4)) else .inl (1 + 8 * sk B n x.1 + 0)
theorem rpa_c {B : Int → Int} {n c : Int} {m : Nat} {x : RST} {se te : Int → Int} : rpa B n (m + 1) c x se te = match rcc B n c x with
    | .inl f => .inl f
    | .inr u => if bya B n (sk B n u.2.1) = -1 then .inr (c + 1, mvp (sk B n u.2.1) u.2, ups se c u.1.2.1, ups te c u.2.2.1) else if bya B n (sk B n u.2.1) = 59 then rpa B n m (c + 1) (mvp (sk B n u.2.1 + 1) u.2) (ups se c u.1.2.1) (ups te c u.2.2.1) else .inl (1 + 8 * sk B n u.2.1 + 0) := by
  conv => lhs; unfold rpa
  unfold rcc
  by_cases w : dec (wdp B n (sk B n x.1) (-14)) = true
  · rw [if_pos w, if_pos w]
    by_cases c1 : c < 12
    · rw [if_pos c1, if_pos c1]
      cases rcl B n (mvp (sk B n x.1 + 4) x) with
      | inl f => rfl
      | inr u => rfl
    · rw [if_neg c1, if_neg c1]
  · rw [if_neg w, if_neg w]
theorem clauseU {B : Int → Int} {n k c : Int} {x : RST} {se te : Int → Int} {h : MH} (b : BB B n) (C : MCl h B n k c x se te) (W : CW c x se te) (o : OkR n x) : ∃ v h', GX12_clauseHere h = some (v, h') ∧ Fr (Mu2 k) h h' ∧ OutT h' B n k c se te v (rcc B n c x) := by
  obtain ⟨M, e14, e39, R⟩ := C
  have b1 := b.2.1
  have p0 := o.1.1
  have op := o.2.1
  have w1 := W.1
  have kk := M.2.2.2.2.2.2.2.1
  have sb := sk_b (B := B) b.2.1 M.p0 M.p1
  have hs : sk B n (mvp (sk B n x.1) x).1 = sk B n x.1 := sk_i b.2.1 M.p0
  obtain ⟨h1, e1, F1, M1⟩ := seeU b M
  obtain ⟨v2, h2, e2, F2, M2, y2, n2⟩ := wordU b M1 wd_14
  rw [hs] at M2 y2 n2
  have M2' : MRu h2 B n k (mvp (sk B n x.1) x) := M2
  have G2 : Fr (Mu2 k) h h2 := (F1.wk (fun _ _ z => z.mu.u1.u2)).tr (F2.wk (fun _ _ z => z.mu.u1.u2))
  have d14 : m_rd h2 334 14 = c := by
    rw [F2.rd (by unfold F348; omega), F1.rd (by unfold F348; omega)]
    exact e14
  have d39 : m_rd h2 339 k = c := by
    rw [F2.rd (by unfold F348; omega), F1.rd (by unfold F348; omega)]
    exact e39
  have dR : Rw h2 k c se te := (R.fr F1 (fun a j z w => by unfold F348 at z; omega)).fr F2 (fun a j z w => by unfold F348 at z; omega)
  unfold GX12_clauseHere rcc
  simp only [jn, if_true]
  rw [e1, bd_some, show m_rd h1 334 11 = k from M1.2.2.2.1, if_neg (show ¬ k = 6 by omega)]
  rw [e2, bd_some, show m_rd h1 334 8 = sk B n x.1 from M1.2.1, d14]
  by_cases w : wdp B n (sk B n x.1) (-14)
  · rw [if_neg (show ¬ v2 = 0 by rw [y2 w]; decide), if_pos (dec_t w)]
    by_cases c2 : c < 12
    · have F3 : Fr (fun a j => a = 334 ∧ j = 14) h2 (m_wr h2 334 14 (c + 1)) := Fr.wr Fr.rf ⟨rfl, rfl⟩
      rw [if_neg (show ¬ c = 12 by omega), if_pos c2, w32_id (x := c + 1) (by omega) (by omega)]
      obtain ⟨v4, h4, e4, F4, r4⟩ := takeU (se := se) (te := te) (c := c) b (M2'.fr F3 (fun a j z => by omega) (by rw [F3.rd (by omega)]; exact M2'.2.1) M2'.p0 M2'.p1) w (rd_eq rfl rfl) (by rw [F3.rd (by omega)]; exact d39) (dR.fr F3 (fun a j z w => by omega)) W c2 ⟨⟨by show (0 : Int) ≤ sk B n x.1; omega, sb.2, o.1.2.2.1, o.1.2.2.2⟩, by show x.2.1 ≤ sk B n x.1; omega, o.2.2⟩
      rw [e4, bd_some, gd_cons r4.gt, gd_nil]
      exact ⟨v4, h4, rfl, (G2.tr (F3.wk (fun a j z => Or.inr (Or.inl z)))).tr F4, r4⟩
    · rw [if_pos (show c = 12 by omega), if_neg c2, failM (by omega) (by omega) (by omega) (by omega) M2'.2.2.1, bd_some, gd_cons (show GT 0 from Or.inl rfl), gd_nil]
      exact ⟨0, _, rfl, Fr.wr G2 (Or.inl (Or.inl (Or.inl ⟨rfl, by omega⟩))), rfl, rd_eq rfl rfl, by omega⟩
  · rw [if_pos (n2 w), if_neg (show ¬ dec (wdp B n (sk B n x.1) (-14)) = true by rw [dec_f w]; decide), failM (by omega) (by omega) (by omega) (by omega) M2'.2.2.1, bd_some, gd_cons (show GT 0 from Or.inl rfl), gd_nil]
    exact ⟨0, _, rfl, Fr.wr G2 (Or.inl (Or.inl (Or.inl ⟨rfl, by omega⟩))), rfl, rd_eq rfl rfl, by omega⟩
theorem rcc_W {B : Int → Int} {n c : Int} {x : RST} {se te : Int → Int} {u : RST × RST} (b : BB B n) (W : CW c x se te) (o : OkR n x) (e : rcc B n c x = .inr u) : c < 12 ∧ CW (c + 1) u.2 (ups se c u.1.2.1) (ups te c u.2.2.1) ∧ OkT n u.2 := by
  have b1 := b.2.1
  have p0 := o.1.1
  have op := o.2.1
  have sb := sk_b (B := B) b.2.1 o.1.1 o.1.2.1
  unfold rcc at e
  by_cases w : wdp B n (sk B n x.1) (-14)
  · rw [if_pos (dec_t w)] at e
    have we := wd_end b wd_14 (by omega) sb.2 w
    rw [show t_len (-14) = 4 by decide] at we
    by_cases c2 : c < 12
    · rw [if_pos c2] at e
      obtain ⟨y, z⟩ := u
      obtain ⟨hy, hz⟩ := rcl_e e
      have o4 : OkT n (mvp (sk B n x.1 + 4) x) := ⟨⟨by show (0 : Int) ≤ sk B n x.1 + 4; omega, by show sk B n x.1 + 4 ≤ n; omega, o.1.2.2.1, o.1.2.2.2⟩, by show x.2.1 < sk B n x.1 + 4; omega, o.2.2⟩
      have oy := (smm_Q b o4.1 hy).okt o4
      have y0 := oy.1.1
      have yp := oy.2.1
      have sy := sk_b (B := B) b.2.1 oy.1.1 oy.1.2.1
      refine ⟨c2, (rcl_W b W c2 o4.1 hy hz).1, ?_⟩
      show OkT n z
      rcases rif_Q b oy.1 hz with ⟨z1, _⟩ | z1
      · rw [z1]
        exact ⟨⟨by show (0 : Int) ≤ sk B n y.1; omega, sy.2, oy.1.2.2.1, oy.1.2.2.2⟩, by show y.2.1 < sk B n y.1; omega, oy.2.2⟩
      · exact z1.okt oy
    · rw [if_neg c2] at e
      cases e
  · rw [if_neg (show ¬ dec (wdp B n (sk B n x.1) (-14)) = true by rw [dec_f w]; decide)] at e
    cases e
def EndV (g : MH) (B : Int → Int) (n k y : Int) (R : RAL) : Prop := match R with
  | .inl f => 0 < f ∧ ((y = 0 ∧ m_rd g 334 9 = f) ∨ (y = 1 ∧ ∃ x : RST, MRu g B n k x ∧ sk B n x.1 = x.1 ∧ bya B n x.1 ≠ -1 ∧ f = 1 + 8 * x.1 + 0))
  | .inr r => y = 1 ∧ MCl g B n k r.1 r.2.1 r.2.2.1 r.2.2.2 ∧ CW r.1 r.2.1 r.2.2.1 r.2.2.2 ∧ sk B n r.2.1.1 = r.2.1.1 ∧ bya B n r.2.1.1 = -1 ∧ r.2.1.2.1 ≤ 400 ∧ r.2.1.2.2.1 ≤ 60
theorem rparU_L {B : Int → Int} {n k : Int} {K : Int → MH → Option (Int × MH)} (b : BB B n) : ∀ (m f : Nat) (c v : Int) (x : RST) (se te : Int → Int) (h : MH), m + 1 < f → c + m = 12 → 0 ≤ c → OutT h B n k c se te v (rcc B n c x) → CW c x se te → OkR n x → ∃ y g, GX12_readsAll_L35 K f v h = K y g ∧ Fr (Mu2 k) h g ∧ EndV g B n k y (rpa B n (m + 1) c x se te) := by
  intro m
  induction m with
  | zero =>
    intro f c v x se te h hf hc c0 ot W o
    obtain ⟨q, rfl⟩ : ∃ q, f = q + 1 := ⟨f - 1, by omega⟩
    rw [rpa_c]
    cases hr : rcc B n c x with
    | inl g =>
      rw [hr] at ot
      conv => enter [1, y, 1, g, 1, 1]; unfold GX12_readsAll_L35
      rw [if_pos ot.1]
      exact ⟨v, h, rfl, Fr.rf, ot.2.2, Or.inl ⟨ot.1, ot.2.1⟩⟩
    | inr u =>
      have := (rcc_W b W o hr).1
      omega
  | succ m ih =>
    intro f c v x se te h hf hc c0 ot W o
    obtain ⟨q, rfl⟩ : ∃ q, f = q + 1 := ⟨f - 1, by omega⟩
    rw [rpa_c]
    cases hr : rcc B n c x with
    | inl g =>
      rw [hr] at ot
      conv => enter [1, y, 1, g, 1, 1]; unfold GX12_readsAll_L35
      rw [if_pos ot.1]
      exact ⟨v, h, rfl, Fr.rf, ot.2.2, Or.inl ⟨ot.1, ot.2.1⟩⟩
    | inr u =>
      rw [hr] at ot
      obtain ⟨v1, C⟩ := ot
      obtain ⟨c2, W2, ou⟩ := rcc_W b W o hr
      obtain ⟨M, d14, d39, dR⟩ := C
      have b1 := b.2.1
      have p0 := ou.1.1
      have up := ou.2.1
      have u1 := ou.1.2.1
      have sb := sk_b (B := B) b.2.1 ou.1.1 ou.1.2.1
      obtain ⟨h1, e1, F1, M1⟩ := seeU b M
      have G1 : Fr (Mu2 k) h h1 := F1.wk (fun _ _ z => z.mu.u1.u2)
      have C1 : MCl h1 B n k (c + 1) (mvp (sk B n u.2.1) u.2) (ups se c u.1.2.1) (ups te c u.2.2.1) := ⟨M1, by rw [F1.rd (by unfold F348; omega)]; exact d14, by rw [F1.rd (by unfold F348; omega)]; exact d39, dR.fr F1 (fun a j z w => by unfold F348 at z; omega)⟩
      conv => enter [1, y, 1, g, 1, 1]; unfold GX12_readsAll_L35
      rw [if_neg (show ¬ v = 0 by omega), e1, bd_some]
      show ∃ y g, _ ∧ Fr (Mu2 k) h g ∧ EndV g B n k y (if bya B n (sk B n u.2.1) = -1 then .inr (c + 1, mvp (sk B n u.2.1) u.2, ups se c u.1.2.1, ups te c u.2.2.1) else if bya B n (sk B n u.2.1) = 59 then rpa B n (m + 1) (c + 1) (mvp (sk B n u.2.1 + 1) u.2) (ups se c u.1.2.1) (ups te c u.2.2.1) else .inl (1 + 8 * sk B n u.2.1 + 0))
      by_cases k2 : bya B n (sk B n u.2.1) = 59
      · have qn : sk B n u.2.1 < n := by
          by_cases y : sk B n u.2.1 < n
          · exact y
          · have := bya_o (B := B) (n := n) (q := sk B n u.2.1) (by omega)
            omega
        have F2 : Fr F348 h1 (m_wr h1 334 8 (sk B n u.2.1 + 1)) := Fr.wr Fr.rf ⟨rfl, rfl⟩
        have on : OkR n (mvp (sk B n u.2.1 + 1) u.2) := ⟨⟨by show (0 : Int) ≤ sk B n u.2.1 + 1; omega, by show sk B n u.2.1 + 1 ≤ n; omega, ou.1.2.2.1, ou.1.2.2.2⟩, by show u.2.2.1 ≤ sk B n u.2.1 + 1; omega, ou.2.2⟩
        have C2 : MCl (m_wr h1 334 8 (sk B n u.2.1 + 1)) B n k (c + 1) (mvp (sk B n u.2.1 + 1) u.2) (ups se c u.1.2.1) (ups te c u.2.2.1) := ⟨M1.at (by omega) (by omega), by rw [F2.rd (by unfold F348; omega)]; exact C1.2.1, by rw [F2.rd (by unfold F348; omega)]; exact C1.2.2.1, C1.2.2.2.fr F2 (fun a j z w => by unfold F348 at z; omega)⟩
        obtain ⟨v3, h3, e3, F3, r3⟩ := clauseU b C2 W2 on
        rw [if_pos k2, show m_rd h1 334 8 = sk B n u.2.1 from M1.2.1, w32_id (x := sk B n u.2.1 + 1) (by omega) (by omega), e3, bd_some, if_neg (by omega), if_pos k2]
        obtain ⟨y, g, e4, F4, o4⟩ := ih q (c + 1) v3 (mvp (sk B n u.2.1 + 1) u.2) (ups se c u.1.2.1) (ups te c u.2.2.1) h3 (by omega) (by omega) (by omega) r3 W2 on
        exact ⟨y, g, e4, (G1.tr (F2.wk (fun _ _ z => z.mu.u1.u2))).tr (F3.tr F4), o4⟩
      · rw [if_neg k2, if_neg k2]
        refine ⟨v, h1, rfl, G1, ?_⟩
        by_cases k3 : bya B n (sk B n u.2.1) = -1
        · rw [if_pos k3]
          exact ⟨v1, C1, W2, sk_i b.2.1 p0, k3, by show u.2.2.1 ≤ 400; omega, ou.1.2.2.2⟩
        · rw [if_neg k3]
          exact ⟨by omega, Or.inr ⟨v1, mvp (sk B n u.2.1) u.2, M1, sk_i b.2.1 p0, k3, rfl⟩⟩
def RaU (k a j : Int) : Prop := Mu2 k a j ∨ (a = 334 ∧ j = 1)
def EndW (h : MH) (k v : Int) (R : RAL) : Prop := match R with
  | .inl f => v = 0 ∧ m_rd h 334 9 = f
  | .inr r => v = 1 ∧ m_rd h 339 k = r.1 ∧ Rw h k r.1 r.2.2.1 r.2.2.2 ∧ (∀ i, 0 ≤ i → i < r.2.1.2.1 → m_rd h 336 (400 * k + i) = enc (r.2.1.2.2.2 i)) ∧ CW r.1 r.2.1 r.2.2.1 r.2.2.2 ∧ r.2.1.2.1 ≤ 400 ∧ r.2.1.2.2.1 ≤ 60
theorem readsAllU {B : Int → Int} {n k : Int} {gg se te : Int → Int} {h : MH} (b : BB B n) (t : TpM h B n) (e11 : m_rd h 334 11 = k) (k0 : 0 ≤ k) (k1 : k < 6) (e39 : m_rd h 339 k = 0) : ∃ v h', GX12_readsAll h = some (v, h') ∧ Fr (RaU k) h h' ∧ m_rd h' 334 1 = 0 ∧ EndW h' k v (rpa B n 13 0 (0, 0, 0, gg) se te) := by
  have b0 := b.1
  have b1 := b.2.1
  unfold GX12_readsAll
  rw [e11, gd_ib k0 (by omega), gd_nil]
  simp only [hl, jn]
  have F0 : Fr (fun a j => (a = 334 ∧ (j = 8 ∨ j = 9 ∨ j = 12 ∨ j = 14)) ∨ (a = 337 ∧ j = k)) h (m_wr (m_wr (m_wr (m_wr (m_wr h 337 k 0) 334 14 0) 334 8 0) 334 9 0) 334 12 0) := Fr.wr (Fr.wr (Fr.wr (Fr.wr (Fr.wr Fr.rf (by omega)) (by omega)) (by omega)) (by omega)) (by omega)
  have C0 : MCl (m_wr (m_wr (m_wr (m_wr (m_wr h 337 k 0) 334 14 0) 334 8 0) 334 9 0) 334 12 0) B n k 0 (0, 0, 0, gg) se te := by
    refine ⟨⟨t.fr F0 (fun a j z => by omega), ?_, ?_, ?_, ?_, rd_eq rfl rfl, fun i i0 i1 => ?_, ⟨k0, k1⟩, Int.le_refl _, b0⟩, ?_, ?_, fun j j0 j1 => by omega⟩
    · rw [rd_ne (by omega), rd_ne (by omega), rd_eq rfl rfl]
    · rw [rd_ne (by omega), rd_eq rfl rfl]
    · rw [F0.rd (by omega)]
      exact e11
    · rw [rd_ne (by omega), rd_ne (by omega), rd_ne (by omega), rd_ne (by omega), rd_eq rfl rfl]
    · have : i < 0 := i1
      omega
    · rw [rd_ne (by omega), rd_ne (by omega), rd_ne (by omega), rd_eq rfl rfl]
    · rw [F0.rd (by omega)]
      exact e39
  have W0 : CW 0 (0, 0, 0, gg) se te := ⟨by show (0 : Int) ≤ 0 ∧ (0 : Int) ≤ 12 ∧ (0 : Int) ≤ 0; omega, rfl, fun i i0 i1 => by have : i < 0 := i1; omega, Int.le_refl _, fun j j0 j1 => by omega⟩
  have o0 : OkR n (0, 0, 0, gg) := ⟨⟨Int.le_refl _, b0, Int.le_refl _, by show (0 : Int) ≤ 60; omega⟩, Int.le_refl _, Int.le_refl _⟩
  generalize m_wr (m_wr (m_wr (m_wr (m_wr h 337 k 0) 334 14 0) 334 8 0) 334 9 0) 334 12 0 = g0 at F0 C0 ⊢
  obtain ⟨x1, h1, e1, F1, o1⟩ := clauseU b C0 W0 o0
  rw [e1, bd_some]
  obtain ⟨y, g, e2, F2, o2⟩ := rparU_L (K := fun w4 h5 => if w4 = 0 then (if (m_rd (m_wr h5 334 1 0) 334 9) = 0 then some (1, (m_wr h5 334 1 0)) else some (0, (m_wr h5 334 1 0))) else bd (GX12_see h5) (fun x9 h8 => if x9 = (-1) then (if (m_rd (m_wr h8 334 1 0) 334 9) = 0 then some (1, (m_wr h8 334 1 0)) else some (0, (m_wr h8 334 1 0))) else bd (GX12_fails 0 (m_rd h8 334 8) h8) (fun x11 h10 => if (m_rd (m_wr h10 334 1 0) 334 9) = 0 then some (1, (m_wr h10 334 1 0)) else some (0, (m_wr h10 334 1 0))))) b 12 FU 0 x1 (0, 0, 0, gg) se te h1 (by decide) (by decide) (by decide) o1 W0 o0
  rw [e2]
  have G : Fr (RaU k) h g := (F0.wk (fun a j z => by unfold RaU Mu2 Mu1 Mu0; omega)).tr ((F1.wk (fun a j z => Or.inl z)).tr (F2.wk (fun a j z => Or.inl z)))
  have w1 : ∀ {g' : MH}, Fr (RaU k) h g' → Fr (RaU k) h (m_wr g' 334 1 0) := fun z => Fr.wr z (Or.inr ⟨rfl, rfl⟩)
  have c1 : ∀ {g' : MH}, m_rd (m_wr g' 334 1 0) 334 9 = m_rd g' 334 9 := rd_ne (by omega)
  generalize rpa B n (12 + 1) 0 (0, 0, 0, gg) se te = R at o2 ⊢
  match R, o2 with
  | .inl f, o2 =>
    obtain ⟨f0, o2⟩ := o2
    rcases o2 with ⟨y0, z⟩ | ⟨y1, x, M, hs, nb, ef⟩
    · rw [if_pos y0, c1, z, if_neg (by omega)]
      exact ⟨0, _, rfl, w1 G, rd_eq rfl rfl, rfl, by rw [c1]; exact z⟩
    · obtain ⟨h2, e3, F3, M3⟩ := seeU b M
      have q0 := M.p0
      have q1 := M.p1
      rw [hs] at e3 M3
      rw [if_neg (by omega), e3, bd_some, if_neg nb, show m_rd h2 334 8 = x.1 from M3.2.1, failM q0 (by omega) (by omega) (by omega) M3.2.2.1, bd_some, c1, rd_eq rfl rfl, if_neg (by omega)]
      refine ⟨0, _, rfl, w1 (Fr.wr (G.tr (F3.wk (fun a j z => Or.inl z.mu.u1.u2))) (Or.inl (Or.inl (Or.inl (Or.inl ⟨rfl, by omega⟩))))), rd_eq rfl rfl, rfl, ?_⟩
      rw [c1, rd_eq rfl rfl, ef]
  | .inr r, o2 =>
    obtain ⟨y1, ⟨M, d14, d39, dR⟩, W, hs, nb, l4, l6⟩ := o2
    obtain ⟨h2, e3, F3, M3⟩ := seeU b M
    rw [hs] at e3 M3
    have z9 : m_rd h2 334 9 = 0 := M3.2.2.1
    have F4 : Fr (fun a j => a = 334 ∧ j = 1) h2 (m_wr h2 334 1 0) := Fr.wr Fr.rf ⟨rfl, rfl⟩
    rw [if_neg (by omega), e3, bd_some, if_pos nb, c1, z9, if_pos rfl]
    refine ⟨1, _, rfl, w1 (G.tr (F3.wk (fun a j z => Or.inl z.mu.u1.u2))), rd_eq rfl rfl, rfl, ?_, (dR.fr F3 (fun a j z w => by unfold F348 at z; omega)).fr F4 (fun a j z w => by omega), fun i i0 i1 => ?_, W, l4, l6⟩
    · rw [F4.rd (by omega), F3.rd (by unfold F348; omega)]
      exact d39
    · rw [F4.rd (by omega)]
      exact M3.2.2.2.2.2.2.1 i i0 i1
