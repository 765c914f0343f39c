/-! a clause, and the text, read by the class -/
theorem tooManyC {c k : Int} {T : Int → Int} {h : MH} (W : WkR h 7 (beg T)) : GX3_tooMany c k h = some (if c < 40 ∧ (c = 0 ↔ k = 1) ∧ (k = 4 → T 5 < 12) ∧ (k = 3 → T 4 < 12) then 0 else 1, h) := by
  have a : m_rd h 7 1 = T 5 := by
    rw [W.2.2.1, beg_12]
  have b : m_rd h 8 0 = T 4 := by
    have := W.2.2.2.1.1
    rw [beg_13] at this
    exact this
  unfold GX3_tooMany
  simp only [jn]
  rw [a, b]
  by_cases c1 : c < 40
  · rw [if_pos c1]
    by_cases c2 : c = 0 <;> by_cases c3 : k = 1
    · rw [if_pos c2, if_pos c3, if_pos trivial, if_neg (by omega), if_neg (by omega), if_pos (by omega)]
    · rw [if_pos c2, if_neg c3, if_neg (by decide), if_neg (by omega)]
    · rw [if_neg c2, if_pos c3, if_neg (by decide), if_neg (by omega)]
    · rw [if_neg c2, if_neg c3, if_pos trivial]
      by_cases k3 : k = 3
      · rw [if_pos k3, if_neg (show ¬ k = 4 by omega)]
        by_cases t : T 4 < 12
        · rw [if_pos t, if_pos (by omega)]
        · rw [if_neg t, if_neg (by omega)]
      · rw [if_neg k3]
        by_cases k4 : k = 4
        · rw [if_pos k4]
          by_cases t : T 5 < 12
          · rw [if_pos t, if_pos (by omega)]
          · rw [if_neg t, if_neg (by omega)]
        · rw [if_neg k4, if_pos (by omega)]
  · rw [if_neg c1, if_neg (by omega)]
theorem wordC {B : Int → Int} {n p a w : Int} {h : MH} (b : BB B n) (C : CS h B n p) (hs : sk B n p = p) (W : WD a w) : ∃ x h', GX9_takeWord a h = some (x, h') ∧ Fr F12 h h' ∧ (wdp B n p a → x = 1 ∧ CS h' B n (p + t_len a)) ∧ (¬ wdp B n p a → x = 0 ∧ CS h' B n p) := by
  obtain ⟨T, hp, z, p0, p1⟩ := C
  obtain ⟨x, h', e, x01, xi, F, hp'⟩ := takeWordC b T hp p0 p1 W.1 (by have := W.2.2.1; omega)
  have T' : TpC h' B n := T.fr F (fun a j z => by unfold F12 at z; omega)
  have z' : m_rd h' 1 3 = 0 := by
    rw [F.rd (by unfold F12; omega)]
    exact z
  rw [hs] at xi hp'
  refine ⟨x, h', e, F, fun y => ?_, fun y => ?_⟩
  · have x1 := xi.2 y
    rw [if_pos x1] at hp'
    have r := wd_run b W p0 y
    have rr := run_p (B := B) (q := p) isL_n b.2.1 p0
    have := rr.2.1 p1
    exact ⟨x1, T', hp', z', by omega, by omega⟩
  · have x1 : x ≠ 1 := fun q => y (xi.1 q)
    rw [if_neg x1] at hp'
    exact ⟨by omega, T', hp', z', p0, p1⟩
theorem F12.f123 {a j : Int} (z : F12 a j) : F123 a j := by
  unfold F12 at z
  unfold F123
  omega
/-- which word stands there: 0 none -/
def knd (B : Int → Int) (n q k : Int) : Prop := (k = 1 ∧ wdp B n q (-10)) ∨ (k = 2 ∧ ¬ wdp B n q (-10) ∧ wdp B n q (-11)) ∨ (k = 3 ∧ ¬ wdp B n q (-10) ∧ ¬ wdp B n q (-11) ∧ wdp B n q (-12)) ∨ (k = 4 ∧ ¬ wdp B n q (-10) ∧ ¬ wdp B n q (-11) ∧ ¬ wdp B n q (-12) ∧ wdp B n q (-13)) ∨ (k = 0 ∧ ¬ wdp B n q (-10) ∧ ¬ wdp B n q (-11) ∧ ¬ wdp B n q (-12) ∧ ¬ wdp B n q (-13))
def kln (k : Int) : Int := if k = 1 then 5 else if k = 2 then 4 else if k = 3 then 4 else if k = 4 then 6 else 0
theorem kindC {B : Int → Int} {n q : Int} {h : MH} (b : BB B n) (C : CS h B n q) (hs : sk B n q = q) : ∃ k h', GX3_takeKind h = some (k, h') ∧ Fr F12 h h' ∧ knd B n q k ∧ CS h' B n (q + kln k) := by
  unfold GX3_takeKind
  obtain ⟨x1, h1, e1, F1, a1, b1⟩ := wordC b C hs wd_10
  rw [e1, bd_some]
  by_cases w1 : wdp B n q (-10)
  · obtain ⟨y, C1⟩ := a1 w1
    rw [if_neg (by omega)]
    exact ⟨1, h1, rfl, F1, Or.inl ⟨rfl, w1⟩, C1⟩
  obtain ⟨y1, C1⟩ := b1 w1
  rw [if_pos y1]
  obtain ⟨x2, h2, e2, F2, a2, b2⟩ := wordC b C1 hs wd_11
  rw [e2, bd_some]
  by_cases w2 : wdp B n q (-11)
  · obtain ⟨y, C2⟩ := a2 w2
    rw [if_neg (by omega)]
    exact ⟨2, h2, rfl, F1.tr F2, Or.inr (Or.inl ⟨rfl, w1, w2⟩), C2⟩
  obtain ⟨y2, C2⟩ := b2 w2
  rw [if_pos y2]
  obtain ⟨x3, h3, e3, F3, a3, b3⟩ := wordC b C2 hs wd_12
  rw [e3, bd_some]
  by_cases w3 : wdp B n q (-12)
  · obtain ⟨y, C3⟩ := a3 w3
    rw [if_neg (by omega)]
    exact ⟨3, h3, rfl, F1.tr (F2.tr F3), Or.inr (Or.inr (Or.inl ⟨rfl, w1, w2, w3⟩)), C3⟩
  obtain ⟨y3, C3⟩ := b3 w3
  rw [if_pos y3]
  obtain ⟨x4, h4, e4, F4, a4, b4⟩ := wordC b C3 hs wd_13
  rw [e4, bd_some]
  by_cases w4 : wdp B n q (-13)
  · obtain ⟨y, C4⟩ := a4 w4
    rw [if_neg (by omega)]
    exact ⟨4, h4, rfl, F1.tr (F2.tr (F3.tr F4)), Or.inr (Or.inr (Or.inr (Or.inl ⟨rfl, w1, w2, w3, w4⟩))), C4⟩
  obtain ⟨y4, C4⟩ := b4 w4
  rw [if_pos y4]
  refine ⟨0, h4, rfl, F1.tr (F2.tr (F3.tr F4)), Or.inr (Or.inr (Or.inr (Or.inr ⟨rfl, w1, w2, w3, w4⟩))), ?_⟩
  rw [show q + kln 0 = q from Int.add_zero q]
  exact C4
theorem fcl_k {B : Int → Int} {n c p k : Int} {T : Int → Int} (K : knd B n (sk B n p) k) : fcl B n c p T = if k = 0 then .inl (1 + 8 * sk B n p + 0) else if k = 1 then (if c = 0 then fsh B n (sk B n p + 5) T else .inl (1 + 8 * sk B n p + 4)) else if k = 2 then (if 1 ≤ c ∧ c < 40 then frm B n (sk B n p + 4) T else .inl (1 + 8 * sk B n p + 4)) else if k = 3 then (if (1 ≤ c ∧ c < 40) ∧ T 4 < 12 then fen B n (sk B n p + 4) T else .inl (1 + 8 * sk B n p + 4)) else (if (1 ≤ c ∧ c < 40) ∧ T 5 < 12 then flt B n (sk B n p + 6) T else .inl (1 + 8 * sk B n p + 4)) := by
  have ff : ∀ {P : Prop}, ¬ P → ¬ (dec P = true) := fun z => by
    rw [dec_f z]
    decide
  unfold fcl
  rcases K with ⟨k1, w1⟩ | ⟨k1, w1, w2⟩ | ⟨k1, w1, w2, w3⟩ | ⟨k1, w1, w2, w3, w4⟩ | ⟨k1, w1, w2, w3, w4⟩
  · rw [k1, if_pos (dec_t w1), if_neg (show ¬ ((1 : Int) = 0) by decide), if_pos (show (1 : Int) = 1 from rfl)]
  · rw [k1, if_neg (ff w1), if_pos (dec_t w2), if_neg (show ¬ ((2 : Int) = 0) by decide), if_neg (show ¬ ((2 : Int) = 1) by decide), if_pos (show (2 : Int) = 2 from rfl)]
  · rw [k1, if_neg (ff w1), if_neg (ff w2), if_pos (dec_t w3), if_neg (show ¬ ((3 : Int) = 0) by decide), if_neg (show ¬ ((3 : Int) = 1) by decide), if_neg (show ¬ ((3 : Int) = 2) by decide), if_pos (show (3 : Int) = 3 from rfl)]
  · rw [k1, if_neg (ff w1), if_neg (ff w2), if_neg (ff w3), if_pos (dec_t w4), if_neg (show ¬ ((4 : Int) = 0) by decide), if_neg (show ¬ ((4 : Int) = 1) by decide), if_neg (show ¬ ((4 : Int) = 2) by decide), if_neg (show ¬ ((4 : Int) = 3) by decide)]
  · rw [k1, if_neg (ff w1), if_neg (ff w2), if_neg (ff w3), if_neg (ff w4), if_pos (show (0 : Int) = 0 from rfl)]
theorem knd_b {B : Int → Int} {n q k : Int} (K : knd B n q k) : 0 ≤ k ∧ k ≤ 4 := by
  rcases K with ⟨k1, _⟩ | ⟨k1, _⟩ | ⟨k1, _⟩ | ⟨k1, _⟩ | ⟨k1, _⟩ <;> omega
def InC (h : MH) (B : Int → Int) (n c p : Int) (T : Int → Int) : Prop := CS h B n p ∧ (1 ≤ c → ShR h 4 T) ∧ WkR h 7 (beg T) ∧ TW c T
theorem OutC.gt {h : MH} {B : Int → Int} {n x c : Int} {R : PR} (o : OutC h B n x c R) : GT x := by
  match R, o with
  | .inl f, o => exact Or.inl o.1
  | .inr r, o => exact Or.inr o.1
theorem clauseC {B : Int → Int} {n c p : Int} {T : Int → Int} {h : MH} (b : BB B n) (I : InC h B n c p T) (c0 : 0 ≤ c) (c1 : c ≤ 40) : ∃ x h', GX3_takeClause c h = some (x, h') ∧ Fr RdF h h' ∧ OutC h' B n x (c + 1) (fcl B n c p T) := by
  obtain ⟨C, R, W, w⟩ := I
  have b1 := b.2.1
  have sb := sk_b (B := B) b.2.1 C.2.2.2.1 C.2.2.2.2
  have p0 := C.2.2.2.1
  unfold GX3_takeClause
  obtain ⟨h1, e1, F1, a1⟩ := nextC b C.1 C.2.1 C.2.2.2.1 C.2.2.2.2
  rw [e1, bd_some]
  have C1 : CS h1 B n (sk B n p) := ⟨C.1.fr F1 (fun a j z => by unfold F12 at z; omega), a1, by rw [F1.rd (by unfold F12; omega)]; exact C.2.2.1, by omega, by omega⟩
  obtain ⟨k, h2, e2, F2, K, C2⟩ := kindC b C1 (sk_i b.2.1 p0)
  have kb := knd_b K
  have W2 : WkR h2 7 (beg T) := (W.f1 (F1.wk (fun _ _ z => z.f123))).f1 (F2.wk (fun _ _ z => z.f123))
  have R2 : 1 ≤ c → ShR h2 4 T := fun z => ((R z).f1 (F1.wk (fun _ _ z => z.f123))).f1 (F2.wk (fun _ _ z => z.f123))
  have F0 : Fr RdF h h2 := (F1.wk (fun _ _ z => z.rdf)).tr (F2.wk (fun _ _ z => z.rdf))
  rw [e2, bd_some, a1, fcl_k K]
  have bad : ∀ m, 0 ≤ m → m ≤ 4 → ∃ x h', bd (GX9_fail (sk B n p) m h2) (fun x18 h17 => gd [GT x18] (some (x18, h17))) = some (x, h') ∧ Fr RdF h h' ∧ OutC h' B n x (c + 1) (.inl (1 + 8 * sk B n p + m)) := fun m m0 m1 => by
    rw [failC (by omega) (by omega) m0 m1 C2.2.2.1, bd_some, gd_cons (show GT 0 from Or.inl rfl), gd_nil]
    exact ⟨0, _, rfl, F0.tr (Fr.wr Fr.rf (Or.inl ⟨rfl, Or.inr rfl⟩)), rfl, rd_eq rfl rfl, by omega⟩
  by_cases k0 : k = 0
  · rw [if_pos k0, if_pos k0]
    exact bad 0 (by omega) (by omega)
  rw [if_neg k0, if_neg k0, tooManyC W2, bd_some]
  by_cases k1 : k = 1
  · rw [if_pos k1, if_pos k1]
    by_cases z : c = 0
    · have l : kln k = 5 := by
        rw [k1]
        rfl
      rw [l] at C2
      rw [if_pos z, if_pos (show c < 40 ∧ (c = 0 ↔ k = 1) ∧ (k = 4 → T 5 < 12) ∧ (k = 3 → T 4 < 12) by omega), if_pos (show (0 : Int) = 0 from rfl)]
      rw [z] at w ⊢
      obtain ⟨x, h3, e3, F3, o3⟩ := shapeC b C2 W2 w
      rw [e3, bd_some, gd_cons o3.gt, gd_nil]
      exact ⟨x, h3, rfl, F0.tr F3, o3⟩
    · rw [if_neg z, if_neg (show ¬ (c < 40 ∧ (c = 0 ↔ k = 1) ∧ (k = 4 → T 5 < 12) ∧ (k = 3 → T 4 < 12)) by omega), if_neg (show ¬ ((1 : Int) = 0) by decide)]
      exact bad 4 (by omega) (by omega)
  rw [if_neg k1, if_neg k1]
  by_cases k2 : k = 2
  · rw [if_pos k2, if_pos k2]
    by_cases z : 1 ≤ c ∧ c < 40
    · have l : kln k = 4 := by
        rw [k2]
        rfl
      rw [l] at C2
      rw [if_pos z, if_pos (show c < 40 ∧ (c = 0 ↔ k = 1) ∧ (k = 4 → T 5 < 12) ∧ (k = 3 → T 4 < 12) by omega), if_pos (show (0 : Int) = 0 from rfl)]
      obtain ⟨x, h3, e3, F3, o3⟩ := roomC b C2 (R2 z.1) W2 w z.1
      rw [e3, bd_some, gd_cons o3.gt, gd_nil]
      exact ⟨x, h3, rfl, F0.tr F3, o3⟩
    · rw [if_neg z, if_neg (show ¬ (c < 40 ∧ (c = 0 ↔ k = 1) ∧ (k = 4 → T 5 < 12) ∧ (k = 3 → T 4 < 12)) by omega), if_neg (show ¬ ((1 : Int) = 0) by decide)]
      exact bad 4 (by omega) (by omega)
  rw [if_neg k2, if_neg k2]
  by_cases k3 : k = 3
  · rw [if_pos k3, if_pos k3]
    by_cases z : (1 ≤ c ∧ c < 40) ∧ T 4 < 12
    · have l : kln k = 4 := by
        rw [k3]
        rfl
      rw [l] at C2
      rw [if_pos z, if_pos (show c < 40 ∧ (c = 0 ↔ k = 1) ∧ (k = 4 → T 5 < 12) ∧ (k = 3 → T 4 < 12) by omega), if_pos (show (0 : Int) = 0 from rfl)]
      obtain ⟨x, h3, e3, F3, o3⟩ := entryC b C2 (R2 z.1.1) W2 w z.1.1 z.2
      rw [e3, bd_some, gd_cons o3.gt, gd_nil]
      exact ⟨x, h3, rfl, F0.tr F3, o3⟩
    · rw [if_neg z, if_neg (show ¬ (c < 40 ∧ (c = 0 ↔ k = 1) ∧ (k = 4 → T 5 < 12) ∧ (k = 3 → T 4 < 12)) by omega), if_neg (show ¬ ((1 : Int) = 0) by decide)]
      exact bad 4 (by omega) (by omega)
  rw [if_neg k3, if_neg k3]
  by_cases z : (1 ≤ c ∧ c < 40) ∧ T 5 < 12
  · have l : kln k = 6 := by
      rw [show k = 4 by omega]
      rfl
    rw [l] at C2
    rw [if_pos z, if_pos (show c < 40 ∧ (c = 0 ↔ k = 1) ∧ (k = 4 → T 5 < 12) ∧ (k = 3 → T 4 < 12) by omega), if_pos (show (0 : Int) = 0 from rfl)]
    obtain ⟨x, h3, e3, F3, o3⟩ := letterC b C2 (R2 z.1.1) W2 w z.1.1 z.2
    rw [e3, bd_some, gd_cons o3.gt, gd_nil]
    exact ⟨x, h3, rfl, F0.tr F3, o3⟩
  · rw [if_neg z, if_neg (show ¬ (c < 40 ∧ (c = 0 ↔ k = 1) ∧ (k = 4 → T 5 < 12) ∧ (k = 3 → T 4 < 12)) by omega), if_neg (show ¬ ((1 : Int) = 0) by decide)]
    exact bad 4 (by omega) (by omega)
theorem semiC {B : Int → Int} {n p : Int} {h : MH} (b : BB B n) (C : CS h B n p) : ∃ x h', GX9_takeSemicolon h = some (x, h') ∧ Fr F123 h h' ∧ (bya B n (sk B n p) = -1 → x = 0 ∧ CS h' B n (sk B n p)) ∧ (bya B n (sk B n p) = 59 → x = 1 ∧ CS h' B n (sk B n p + 1)) ∧ (bya B n (sk B n p) ≠ -1 → bya B n (sk B n p) ≠ 59 → x = 0 ∧ m_rd h' 1 3 = 1 + 8 * sk B n p + 0) := by
  obtain ⟨T, hp, z, p0, p1⟩ := C
  have b1 := b.2.1
  have sb := sk_b (B := B) b.2.1 p0 p1
  unfold GX9_takeSemicolon
  obtain ⟨h1, e1, F1, a1⟩ := nextC b T hp p0 p1
  have T1 : TpC h1 B n := T.fr F1 (fun a j z => by unfold F12 at z; omega)
  have z1 : m_rd h1 1 3 = 0 := by
    rw [F1.rd (by unfold F12; omega)]
    exact z
  rw [e1, bd_some]
  by_cases c1 : bya B n (sk B n p) = -1
  · rw [if_pos c1]
    exact ⟨0, h1, rfl, F1.wk (fun _ _ z => z.f123), fun _ => ⟨rfl, T1, a1, z1, by omega, by omega⟩, fun q => by omega, fun q => absurd c1 q⟩
  rw [if_neg c1]
  unfold GX9_takeByte
  obtain ⟨h2, e2, F2, a2⟩ := nextC b T1 a1 (by omega) (by omega)
  rw [sk_i b.2.1 p0] at e2 a2
  have T2 : TpC h2 B n := T1.fr F2 (fun a j z => by unfold F12 at z; omega)
  have z2 : m_rd h2 1 3 = 0 := by
    rw [F2.rd (by unfold F12; omega)]
    exact z1
  have qn : sk B n p < n := by
    by_cases y : sk B n p < n
    · exact y
    · exact absurd (bya_o (by omega)) c1
  rw [e2, bd_some, a2]
  by_cases c2 : bya B n (sk B n p) = 59
  · rw [if_pos c2, bd_some, if_neg (by decide), w32_id (by omega) (by omega)]
    have Fw : Fr F12 h2 (m_wr h2 1 2 (sk B n p + 1)) := Fr.wr Fr.rf ⟨rfl, rfl⟩
    exact ⟨1, _, rfl, ((F1.tr F2).tr Fw).wk (fun _ _ z => z.f123), fun q => absurd q c1, fun _ => ⟨rfl, T2.fr Fw (fun a j z => by unfold F12 at z; omega), rd_eq rfl rfl, by rw [rd_ne (by omega)]; exact z2, by omega, by omega⟩, fun _ q => absurd c2 q⟩
  · rw [if_neg c2, failC (by omega) (by omega) (by omega) (by omega) z2, bd_some, gd_cons (show GT 0 from Or.inl rfl), gd_nil, bd_some, if_pos rfl]
    exact ⟨0, _, rfl, ((F1.tr F2).wk (fun _ _ z => z.f123)).tr (Fr.wr Fr.rf ⟨rfl, Or.inr rfl⟩), fun q => absurd q c1, fun q => absurd q c2, fun _ _ => ⟨rfl, rd_eq rfl rfl⟩⟩
theorem fcl_lt {B : Int → Int} {n p : Int} {T : Int → Int} : ∃ f, fcl B n 40 p T = .inl f := by
  unfold fcl
  rw [if_neg (show ¬ ((40 : Int) = 0) by decide), if_neg (show ¬ ((1 : Int) ≤ 40 ∧ (40 : Int) < 40) by decide), if_neg (show ¬ (((1 : Int) ≤ 40 ∧ (40 : Int) < 40) ∧ T 4 < 12) by omega), if_neg (show ¬ (((1 : Int) ≤ 40 ∧ (40 : Int) < 40) ∧ T 5 < 12) by omega)]
  split
  · exact ⟨_, rfl⟩
  split
  · exact ⟨_, rfl⟩
  split
  · exact ⟨_, rfl⟩
  split
  · exact ⟨_, rfl⟩
  · exact ⟨_, rfl⟩
/-- what the reading of a whole text leaves -/
def EndC (h : MH) (x : Int) (R : PR) : Prop := match R with
  | .inl f => x = f ∧ 0 < f
  | .inr r => x = 0 ∧ ShR h 4 r.2 ∧ WkR h 7 (beg r.2) ∧ ∃ c, 1 ≤ c ∧ TW c r.2
theorem parC_L {B : Int → Int} {n : Int} (b : BB B n) : ∀ (m f : Nat) (c p : Int) (T : Int → Int) (h : MH), m + 1 < f → c + m = 40 → 0 ≤ c → InC h B n c p T → ∃ x h', GX3_parse_L18 (fun h3 => some ((m_rd h3 1 3), h3)) f 1 c h = some (x, h') ∧ Fr RdF h h' ∧ EndC h' x (fpa B n (m + 1) c p T) := by
  intro m
  induction m with
  | zero =>
    intro f c p T h hf hc c0 I
    obtain ⟨q, rfl⟩ : ∃ q, f = q + 1 + 1 := ⟨f - 2, by omega⟩
    have hc' : c = 40 := by omega
    subst hc'
    obtain ⟨x, h1, e1, F1, o1⟩ := clauseC b I (by decide) (by decide)
    obtain ⟨g, eg⟩ := fcl_lt (B := B) (n := n) (p := p) (T := T)
    unfold fpa
    rw [eg] at o1 ⊢
    conv => enter [1, x, 1, h', 1, 1]; unfold GX3_parse_L18
    rw [if_neg (by decide), if_neg (by decide), e1, bd_some, if_pos o1.1]
    conv => enter [1, x, 1, h', 1, 1]; unfold GX3_parse_L18
    rw [if_pos (by decide)]
    exact ⟨_, h1, rfl, F1, o1.2.1, o1.2.2⟩
  | succ m ih =>
    intro f c p T h hf hc c0 I
    obtain ⟨q, rfl⟩ : ∃ q, f = q + 1 + 1 := ⟨f - 2, by omega⟩
    obtain ⟨x, h1, e1, F1, o1⟩ := clauseC b I c0 (by omega)
    have stop : ∀ g, (∃ x h', GX3_parse_L18 (fun h3 => some ((m_rd h3 1 3), h3)) (q + 1) 0 (m_w32 (c + 1)) g = some (x, h') ∧ x = m_rd g 1 3 ∧ h' = g) := fun g => by
      conv => enter [1, x, 1, h', 1, 1]; unfold GX3_parse_L18
      by_cases z : 40 < m_w32 (c + 1)
      · rw [if_pos z]
        exact ⟨_, _, rfl, rfl, rfl⟩
      · rw [if_neg z, if_pos rfl]
        exact ⟨_, _, rfl, rfl, rfl⟩
    have fe : fpa B n (m + 1 + 1) c p T = match fcl B n c p T with
      | .inl f => .inl f
      | .inr r => if bya B n (sk B n r.1) = -1 then .inr (sk B n r.1, r.2) else if bya B n (sk B n r.1) = 59 then fpa B n (m + 1) (c + 1) (sk B n r.1 + 1) r.2 else .inl (1 + 8 * sk B n r.1 + 0) := rfl
    rw [fe]
    conv => enter [1, x, 1, h', 1, 1]; unfold GX3_parse_L18
    rw [if_neg (by omega), if_neg (by decide), e1, bd_some]
    generalize fcl B n c p T = R at o1 ⊢
    match R, o1 with
    | .inl g, o1 =>
      rw [if_pos o1.1]
      obtain ⟨y, h', e', a1, a2⟩ := stop h1
      rw [e']
      refine ⟨y, h', rfl, by rw [a2]; exact F1, ?_, o1.2.2⟩
      rw [a1]
      exact o1.2.1
    | .inr r, o1 =>
      obtain ⟨x1, C1, R1, W1, w1⟩ := o1
      have sb := sk_b (B := B) b.2.1 C1.2.2.2.1 C1.2.2.2.2
      have p0 := C1.2.2.2.1
      rw [if_neg (by omega)]
      obtain ⟨y, h2, e2, F2, s1, s2, s3⟩ := semiC b C1
      have R2 := R1.f1 F2
      have W2 := W1.f1 F2
      have F12' : Fr RdF h h2 := F1.tr (F2.wk (fun _ _ z => z.rdf))
      rw [e2, bd_some]
      by_cases c1 : bya B n (sk B n r.1) = -1
      · obtain ⟨y0, C2⟩ := s1 c1
        rw [if_pos y0]
        obtain ⟨v, h', e', a1, a2⟩ := stop h2
        rw [e']
        simp only [c1, if_true]
        exact ⟨v, h', rfl, by rw [a2]; exact F12', by rw [a1]; exact C2.2.2.1, by rw [a2]; exact R2, by rw [a2]; exact W2, c + 1, by omega, w1⟩
      · by_cases c2 : bya B n (sk B n r.1) = 59
        · obtain ⟨y0, C2⟩ := s2 c2
          rw [if_neg (by omega), w32_id (x := c + 1) (by omega) (by omega)]
          obtain ⟨v, h', e', F', o'⟩ := ih (q + 1) (c + 1) (sk B n r.1 + 1) r.2 h2 (by omega) (by omega) (by omega) ⟨C2, fun _ => R2, W2, w1⟩
          rw [e']
          refine ⟨v, h', rfl, F12'.tr F', ?_⟩
          show EndC h' v (if bya B n (sk B n r.1) = -1 then .inr (sk B n r.1, r.2) else if bya B n (sk B n r.1) = 59 then fpa B n (m + 1) (c + 1) (sk B n r.1 + 1) r.2 else .inl (1 + 8 * sk B n r.1 + 0))
          rw [if_neg c1, if_pos c2]
          exact o'
        · obtain ⟨y0, z2⟩ := s3 c1 c2
          rw [if_pos y0]
          obtain ⟨v, h', e', a1, a2⟩ := stop h2
          rw [e']
          refine ⟨v, h', rfl, by rw [a2]; exact F12', ?_⟩
          show EndC h' v (if bya B n (sk B n r.1) = -1 then .inr (sk B n r.1, r.2) else if bya B n (sk B n r.1) = 59 then fpa B n (m + 1) (c + 1) (sk B n r.1 + 1) r.2 else .inl (1 + 8 * sk B n r.1 + 0))
          rw [if_neg c1, if_neg c2]
          exact ⟨by rw [a1]; exact z2, by omega⟩
