/-! RULE read by the model: values, sums, comparisons -/
def MRu (h : MH) (B : Int → Int) (n k : Int) (x : RST) : Prop := TpM h B n ∧ m_rd h 334 8 = x.1 ∧ m_rd h 334 9 = 0 ∧ m_rd h 334 11 = k ∧ m_rd h 337 k = x.2.1 ∧ m_rd h 334 12 = x.2.2.1 ∧ (∀ i, 0 ≤ i → i < x.2.1 → m_rd h 336 (400 * k + i) = enc (x.2.2.2 i)) ∧ (0 ≤ k ∧ k < 6) ∧ 0 ≤ x.1 ∧ x.1 ≤ n
def Mu0 (k a j : Int) : Prop := (a = 334 ∧ (j = 8 ∨ j = 9 ∨ j = 10 ∨ j = 12)) ∨ (a = 337 ∧ j = k) ∨ (a = 336 ∧ 400 * k ≤ j ∧ j < 400 * k + 400)
theorem F348.mu {k a j : Int} (z : F348 a j) : Mu0 k a j := by
  unfold F348 at z
  unfold Mu0
  omega
theorem F3489.mu {k a j : Int} (z : F3489 a j) : Mu0 k a j := by
  unfold F3489 at z
  unfold Mu0
  omega
def OutU (h : MH) (B : Int → Int) (n k v : Int) (R : RAN) : Prop := match R with
  | .inl f => v = 0 ∧ m_rd h 334 9 = f ∧ 0 < f
  | .inr y => v = 1 ∧ MRu h B n k y
theorem OutU.gt {h : MH} {B : Int → Int} {n k v : Int} {R : RAN} (o : OutU h B n k v R) : GT v := by
  match R, o with
  | .inl f, o => exact Or.inl o.1
  | .inr r, o => exact Or.inr o.1
theorem MRu.fr {P : Int → Int → Prop} {B : Int → Int} {n k q : Int} {x : RST} {h h' : MH} (M : MRu h B n k x) (F : Fr P h h') (no : ∀ a j, P a j → ¬ (a = 334 ∧ (j = 1 ∨ j = 9 ∨ j = 11 ∨ j = 12)) ∧ a ≠ 335 ∧ a ≠ 336 ∧ a ≠ 337) (hq : m_rd h' 334 8 = q) (q0 : 0 ≤ q) (q1 : q ≤ n) : MRu h' B n k (mvp q x) := by
  obtain ⟨t, hp, z, e11, e37, e12, e36, kk, p0, p1⟩ := M
  refine ⟨t.fr F (fun a j y => ?_), hq, ?_, ?_, ?_, ?_, fun i i0 i1 => ?_, kk, q0, q1⟩
  · have := no a j y
    omega
  · rw [F.rd (fun y => by have := no _ _ y; omega)]
    exact z
  · rw [F.rd (fun y => by have := no _ _ y; omega)]
    exact e11
  · rw [F.rd (fun y => by have := no _ _ y; omega)]
    exact e37
  · rw [F.rd (fun y => by have := no _ _ y; omega)]
    exact e12
  · rw [F.rd (fun y => by have := no _ _ y; omega)]
    exact e36 i i0 i1
theorem MRu.mv {B : Int → Int} {n k q : Int} {x : RST} {h h' : MH} (M : MRu h B n k x) (F : Fr F348 h h') (hq : m_rd h' 334 8 = q) (q0 : 0 ≤ q) (q1 : q ≤ n) : MRu h' B n k (mvp q x) := M.fr F (fun a j z => by unfold F348 at z; omega) hq q0 q1
theorem MRu.p0 {B : Int → Int} {n k : Int} {x : RST} {h : MH} (M : MRu h B n k x) : 0 ≤ x.1 := M.2.2.2.2.2.2.2.2.1
theorem MRu.p1 {B : Int → Int} {n k : Int} {x : RST} {h : MH} (M : MRu h B n k x) : x.1 ≤ n := M.2.2.2.2.2.2.2.2.2
theorem MRu.at {B : Int → Int} {n k q : Int} {x : RST} {h : MH} (M : MRu h B n k x) (q0 : 0 ≤ q) (q1 : q ≤ n) : MRu (m_wr h 334 8 q) B n k (mvp q x) := M.mv (Fr.wr Fr.rf ⟨rfl, rfl⟩) (rd_eq rfl rfl) q0 q1
theorem seeU {B : Int → Int} {n k : Int} {x : RST} {h : MH} (b : BB B n) (M : MRu h B n k x) : ∃ h', GX12_see h = some (bya B n (sk B n x.1), h') ∧ Fr F348 h h' ∧ MRu h' B n k (mvp (sk B n x.1) x) := by
  have p0 := M.p0
  have sb := sk_b (B := B) b.2.1 M.p0 M.p1
  obtain ⟨h', e, F, a⟩ := seeM b M.1 M.2.1 M.p0 M.p1
  exact ⟨h', e, F, M.mv F a (by omega) (by omega)⟩
theorem wordU {B : Int → Int} {n k a w : Int} {x : RST} {h : MH} (b : BB B n) (M : MRu h B n k x) (W : WD a w) : ∃ v h', GX12_isWord w h = some (v, h') ∧ Fr F348 h h' ∧ MRu h' B n k (mvp (sk B n x.1) x) ∧ (wdp B n (sk B n x.1) a → v = 1) ∧ (¬ wdp B n (sk B n x.1) a → v = 0) := by
  have p0 := M.p0
  have sb := sk_b (B := B) b.2.1 M.p0 M.p1
  obtain ⟨v, h', e, x01, xi, F, hp'⟩ := isWordM (w := w) b M.1 M.2.1 M.p0 M.p1
  have wi := wd_iff b W (q := sk B n x.1) (by omega) sb.2
  refine ⟨v, h', e, F, M.mv F hp' (by omega) (by omega), fun y => xi.2 (wi.1 y), fun y => ?_⟩
  have : v ≠ 1 := fun q => y (wi.2 (xi.1 q))
  omega
theorem passU {B : Int → Int} {n k a w : Int} {x : RST} {h : MH} (b : BB B n) (M : MRu h B n k x) (W : WD a w) (hw : wdp B n x.1 a) : ∃ h', GX12_passWord h = some h' ∧ Fr F348 h h' ∧ MRu h' B n k (mvp (x.1 + t_len a) x) := by
  have p0 := M.p0
  have we := wd_end b W M.p0 M.p1 hw
  obtain ⟨h', e, F, a'⟩ := passWordM b M.1 M.2.1 M.p0 M.p1
  rw [wd_run b W M.p0 hw] at a'
  exact ⟨h', e, F, M.mv F a' (by omega) (by omega)⟩
theorem putU {B : Int → Int} {n k c a1 a2 : Int} {x : RST} {h : MH} (M : MRu h B n k x) (s0 : 0 ≤ x.2.1) (s1 : x.2.1 < 400) (e : a1 + 16 * a2 = enc c) (u0 : 0 ≤ a1) (u1 : a1 < 16) (u2 : 0 ≤ a2) (u3 : a2 ≤ 99999) : ∃ h', GX12_puts a1 a2 h = some h' ∧ Fr (fun a j => (a = 336 ∧ j = 400 * k + x.2.1) ∨ (a = 337 ∧ j = k)) h h' ∧ MRu h' B n k (pu c x) := by
  obtain ⟨t, hp, z, e11, e37, e12, e36, kk, p0, p1⟩ := M
  have F1 : Fr (fun a j => a = 336 ∧ j = 400 * k + x.2.1) h (m_wr h 336 (400 * k + x.2.1) (enc c)) := Fr.wr Fr.rf ⟨rfl, rfl⟩
  unfold GX12_puts
  simp only [hl]
  rw [e11, e37, gd_ib kk.1 (by omega), w32_id (x := 400 * k) (by omega) (by omega), w32_id (x := 400 * k + x.2.1) (by omega) (by omega), gd_ib (by omega) (by omega), gd_nil, w32_id (x := 16 * a2) (by omega) (by omega), w32_id (x := a1 + 16 * a2) (by omega) (by omega), e, F1.rd (x := 334) (j := 11) (by omega), e11, gd_ib kk.1 (by omega), gd_nil, F1.rd (x := 337) (j := k) (by omega), e37, w32_id (x := x.2.1 + 1) (by omega) (by omega)]
  have F2 : Fr (fun a j => (a = 336 ∧ j = 400 * k + x.2.1) ∨ (a = 337 ∧ j = k)) h (m_wr (m_wr h 336 (400 * k + x.2.1) (enc c)) 337 k (x.2.1 + 1)) := Fr.wr (Fr.wr Fr.rf (by omega)) (by omega)
  refine ⟨_, rfl, F2, t.fr F2 (fun a j z => by omega), ?_, ?_, ?_, rd_eq rfl rfl, ?_, fun i i0 i1 => ?_, kk, p0, p1⟩
  · rw [F2.rd (by omega)]
    exact hp
  · rw [F2.rd (by omega)]
    exact z
  · rw [F2.rd (by omega)]
    exact e11
  · rw [F2.rd (by omega)]
    exact e12
  · have i2 : i < x.2.1 + 1 := i1
    show _ = enc (ups x.2.2.2 x.2.1 c i)
    rw [rd_a (by decide)]
    by_cases j : i = x.2.1
    · rw [rd_eq rfl (by omega), up_eq j]
    · rw [rd_ne (Or.inr (by omega)), up_k j]
      exact e36 i i0 (by omega)
theorem put_mu {k s : Int} (k0 : 0 ≤ s) (k1 : s < 400) {a j : Int} (z : (a = 336 ∧ j = 400 * k + s) ∨ (a = 337 ∧ j = k)) : Mu0 k a j := by
  unfold Mu0
  omega
theorem makeU {B : Int → Int} {n k a : Int} {x : RST} {h : MH} (M : MRu h B n k x) (q0 : 0 ≤ x.2.2.1) (q1 : x.2.2.1 ≤ 60) (a0 : 0 ≤ a) (a1 : a ≤ 400) : ∃ v h', GX12_makes a h = some (v, h') ∧ Fr (fun a j => a = 334 ∧ (j = 9 ∨ j = 12)) h h' ∧ (x.2.2.1 = 60 → v = 0 ∧ m_rd h' 334 9 = 1 + 8 * a + 3) ∧ (x.2.2.1 ≠ 60 → v = 1 ∧ MRu h' B n k (x.1, x.2.1, x.2.2.1 + 1, x.2.2.2)) := by
  obtain ⟨t, hp, z, e11, e37, e12, e36, kk, p0, p1⟩ := M
  unfold GX12_makes
  rw [e12]
  by_cases c : x.2.2.1 = 60
  · rw [if_pos c, failM a0 a1 (by decide) (by decide) z, bd_some, gd_cons (show GT 0 from Or.inl rfl), gd_nil]
    exact ⟨0, _, rfl, Fr.wr Fr.rf ⟨rfl, Or.inl rfl⟩, fun _ => ⟨rfl, rd_eq rfl rfl⟩, fun y => absurd c y⟩
  · rw [if_neg c, w32_id (by omega) (by omega)]
    have F : Fr (fun a j => a = 334 ∧ j = 12) h (m_wr h 334 12 (x.2.2.1 + 1)) := Fr.wr Fr.rf ⟨rfl, rfl⟩
    refine ⟨1, _, rfl, F.wk (fun a j z => by omega), fun y => absurd y c, fun _ => ⟨rfl, t.fr F (fun a j z => by omega), ?_, ?_, ?_, ?_, rd_eq rfl rfl, fun i i0 i1 => ?_, kk, p0, p1⟩⟩
    · rw [F.rd (by omega)]
      exact hp
    · rw [F.rd (by omega)]
      exact z
    · rw [F.rd (by omega)]
      exact e11
    · rw [F.rd (by omega)]
      exact e37
    · rw [F.rd (by omega)]
      exact e36 i i0 i1
theorem wh_step {B : Int → Int} {n k v v1 w : Int} {m : Nat} {x : RST} {h : MH} {R : MH → Option (Int × MH)} (b : BB B n) (M : MRu h B n k x) (hs : sk B n x.1 = x.1) (W : WD (txt v) w) (hv : v1 = v + 1) (r : ∀ h1, MRu h1 B n k x → ∃ h', R h1 = some (fwd B n x.1 m v1, h') ∧ Fr F348 h1 h' ∧ MRu h' B n k x) : ∃ h', bd (GX12_isWord w h) (fun x2 h1 => if x2 = 0 then R h1 else some (v, h1)) = some (fwd B n x.1 (m + 1) v, h') ∧ Fr F348 h h' ∧ MRu h' B n k x := by
  obtain ⟨y, h1, e1, F1, M1, y1, y0⟩ := wordU b M W
  rw [hs] at M1 y1 y0
  rw [e1, bd_some]
  by_cases c : wdp B n x.1 (txt v)
  · rw [if_neg (by rw [y1 c]; decide), show fwd B n x.1 (m + 1) v = v from if_pos (dec_t c)]
    exact ⟨h1, rfl, F1, M1⟩
  · rw [if_pos (y0 c), show fwd B n x.1 (m + 1) v = fwd B n x.1 m (v + 1) from if_neg (by rw [dec_f c]; decide), ← hv]
    obtain ⟨h', e', F', M'⟩ := r h1 M1
    exact ⟨h', e', F1.tr F', M'⟩
theorem wordHereU {B : Int → Int} {n k : Int} {x : RST} {h : MH} (b : BB B n) (M : MRu h B n k x) (hs : sk B n x.1 = x.1) : ∃ h', GX12_wordHere h = some (wov B n x.1, h') ∧ Fr F348 h h' ∧ MRu h' B n k x := by
  unfold GX12_wordHere wov
  refine wh_step (v := 0) (v1 := 1) b M hs wd_15 rfl (fun h M => ?_)
  refine wh_step (v := 1) (v1 := 2) b M hs wd_16 rfl (fun h M => ?_)
  refine wh_step (v := 2) (v1 := 3) b M hs wd_17 rfl (fun h M => ?_)
  refine wh_step (v := 3) (v1 := 4) b M hs wd_18 rfl (fun h M => ?_)
  refine wh_step (v := 4) (v1 := 5) b M hs wd_19 rfl (fun h M => ?_)
  refine wh_step (v := 5) (v1 := 6) b M hs wd_20 rfl (fun h M => ?_)
  refine wh_step (v := 6) (v1 := 7) b M hs wd_11 rfl (fun h M => ?_)
  refine wh_step (v := 7) (v1 := 8) b M hs wd_21 rfl (fun h M => ?_)
  refine wh_step (v := 8) (v1 := 9) b M hs wd_22 rfl (fun h M => ?_)
  refine wh_step (v := 9) (v1 := 10) b M hs wd_23 rfl (fun h M => ?_)
  refine wh_step (v := 10) (v1 := 11) b M hs wd_24 rfl (fun h M => ?_)
  exact ⟨h, rfl, Fr.rf, M⟩
theorem valU {B : Int → Int} {n k : Int} {x : RST} {h : MH} (b : BB B n) (M : MRu h B n k x) (o : OkR n x) (s1 : x.2.1 < 400) : ∃ v h', GX12_value h = some (v, h') ∧ Fr (Mu0 k) h h' ∧ OutU h' B n k v (val B n x) := by
  obtain ⟨o1, o2, o3⟩ := o
  have b1 := b.2.1
  have p0 := o1.1
  have s0 := o1.2.2.1
  have q1 := o1.2.2.2
  have sb := sk_b (B := B) b.2.1 o1.1 o1.2.1
  obtain ⟨h1, e1, F1, M1⟩ := seeU b M
  have a1 : m_rd h1 334 8 = sk B n x.1 := M1.2.1
  have hs : sk B n (mvp (sk B n x.1) x).1 = (mvp (sk B n x.1) x).1 := sk_i b.2.1 o1.1
  have G1 : Fr (Mu0 k) h h1 := F1.wk (fun _ _ z => z.mu)
  have mk : ∀ {g g' : MH}, Fr (fun a j => a = 334 ∧ (j = 9 ∨ j = 12)) g g' → Fr (Mu0 k) g g' := fun F => F.wk (fun a j z => by unfold Mu0; omega)
  unfold GX12_value val
  rw [e1, bd_some, a1, isDigitM b M1.1 (by omega), bd_some]
  by_cases c1 : isD (bya B n (sk B n x.1)) = true
  · rw [if_pos c1, if_neg (by decide), if_pos c1]
    obtain ⟨k1, k2, k3, k4⟩ := n_sk (B := B) (p := x.1) b.2.1 o1.1
    obtain ⟨y, h2, e2, F2, yes, no⟩ := numM (lo := 0) (hi := 99999) b M1.1 a1 (by omega) sb.2 M1.2.2.1
    rw [k2, k3, k1 0 99999] at yes
    rw [k4, k1 0 99999] at no
    have G2 : Fr (Mu0 k) h h2 := G1.tr (F2.wk (fun _ _ z => z.mu))
    by_cases c2 : nok B n 0 99999 x.1
    · obtain ⟨y1, y2, y3, y4⟩ := yes c2
      have nb := npo_b (B := B) b.2.1 o1.1 o1.2.1
      have nv := nvl_b (B := B) b.2.1 o1.1 o1.2.1
      have M2 : MRu h2 B n k (mvp (npo B n x.1) x) := by
        obtain ⟨t, hp, z, e11, e37, e12, e36, kk, _, _⟩ := M1
        refine ⟨t.f3 F2, y3, y4, ?_, ?_, ?_, fun i i0 i1 => ?_, kk, by show (0 : Int) ≤ npo B n x.1; omega, by show npo B n x.1 ≤ n; omega⟩
        · rw [F2.rd (by unfold F3489; omega)]
          exact e11
        · rw [F2.rd (by unfold F3489; omega)]
          exact e37
        · rw [F2.rd (by unfold F3489; omega)]
          exact e12
        · rw [F2.rd (by unfold F3489; omega)]
          exact e36 i i0 i1
      obtain ⟨v3, h3, e3, F3, r0, r1⟩ := makeU (a := sk B n x.1) M2 o3 q1 (by omega) (by omega)
      rw [e2, bd_some, if_neg (by omega), e3, bd_some, if_pos (dec_t c2)]
      unfold cnp
      by_cases c6 : x.2.2.1 = 60
      · obtain ⟨u0, u1⟩ := r0 c6
        rw [if_pos u0, if_pos (show (mvp (npo B n x.1) x).2.2.1 = 60 from c6)]
        exact ⟨0, h3, rfl, G2.tr (mk F3), rfl, u1, by omega⟩
      · obtain ⟨u1, M3⟩ := r1 c6
        rw [if_neg (by omega), if_neg (show ¬ (mvp (npo B n x.1) x).2.2.1 = 60 from c6), F3.rd (by omega), y2]
        obtain ⟨h4, e4, F4, M4⟩ := putU (c := nvl B n x.1) (a1 := 0) (a2 := nvl B n x.1) M3 s0 s1 (by unfold enc; rw [if_pos nv.1]; omega) (by omega) (by omega) nv.1 nv.2
        rw [e4, bv_some]
        exact ⟨1, h4, rfl, (G2.tr (mk F3)).tr (F4.wk (fun a j z => put_mu s0 s1 z)), rfl, M4⟩
    · obtain ⟨y1, y2⟩ := no c2
      rw [e2, bd_some, if_pos y1, if_neg (by rw [dec_f c2]; decide)]
      exact ⟨0, h2, rfl, G2, rfl, y2, (npo_b (B := B) b.2.1 o1.1 o1.2.1).2.2⟩
  · rw [if_neg c1, if_pos rfl, if_neg c1]
    obtain ⟨h2, e2, F2, M2⟩ := wordHereU b M1 hs
    rw [show wov B n (mvp (sk B n x.1) x).1 = wov B n (sk B n x.1) from rfl] at e2
    have G2 : Fr (Mu0 k) h h2 := G1.tr (F2.wk (fun _ _ z => z.mu))
    rw [e2, bd_some]
    by_cases c2 : wov B n (sk B n x.1) < 0
    · rw [if_pos c2, if_pos c2, failM (by omega) (by omega) (by omega) (by omega) M2.2.2.1, bd_some, gd_cons (show GT 0 from Or.inl rfl), gd_nil]
      exact ⟨0, _, rfl, Fr.wr G2 (Or.inl ⟨rfl, by omega⟩), rfl, rd_eq rfl rfl, by omega⟩
    · rcases wov_p (B := B) (n := n) (q := sk B n x.1) with z | ⟨w0, w1, w2⟩
      · omega
      have W := wd_txt w0 w1
      obtain ⟨l1, l2⟩ := wd_end b W (by omega) sb.2 w2
      obtain ⟨v3, h3, e3, F3, r0, r1⟩ := makeU (a := sk B n x.1) M2 o3 q1 (by omega) (by omega)
      rw [if_neg c2, if_neg c2, e3, bd_some]
      unfold cnp
      by_cases c6 : x.2.2.1 = 60
      · obtain ⟨u0, u1⟩ := r0 c6
        rw [if_pos u0, if_pos (show (mvp (sk B n x.1 + t_len (txt (wov B n (sk B n x.1)))) x).2.2.1 = 60 from c6)]
        exact ⟨0, h3, rfl, G2.tr (mk F3), rfl, u1, by omega⟩
      · obtain ⟨u1, M3⟩ := r1 c6
        rw [if_neg (by omega), if_neg (show ¬ (mvp (sk B n x.1 + t_len (txt (wov B n (sk B n x.1)))) x).2.2.1 = 60 from c6)]
        obtain ⟨h4, e4, F4, M4⟩ := passU b M3 W w2
        rw [e4, bv_some]
        obtain ⟨h5, e5, F5, M5⟩ := putU (c := -1 - wov B n (sk B n x.1)) (a1 := 1) (a2 := wov B n (sk B n x.1)) M4 s0 s1 (by unfold enc; rw [if_neg (by omega), if_pos (by omega)]; omega) (by omega) (by omega) (by omega) (by omega)
        rw [e5, bv_some]
        exact ⟨1, h5, rfl, ((G2.tr (mk F3)).tr (F4.wk (fun _ _ z => z.mu))).tr (F5.wk (fun a j z => put_mu s0 s1 z)), rfl, M5⟩
