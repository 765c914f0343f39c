/-! RULE read by the class: values and sums -/
def CRu (h : MH) (B : Int → Int) (n : Int) (x : RST) : Prop := CS h B n x.1 ∧ m_rd h 15 2 = x.2.1 ∧ m_rd h 15 6 = x.2.2.1 ∧ m_rd h 16 = x.2.2.2
def RuF (a j : Int) : Prop := (a = 1 ∧ (j = 2 ∨ j = 3)) ∨ (a = 15 ∧ (j = 2 ∨ j = 6)) ∨ a = 16
def OutR (h : MH) (B : Int → Int) (n v : Int) (R : RAN) : Prop := match R with
  | .inl f => v = 0 ∧ m_rd h 1 3 = f ∧ 0 < f
  | .inr y => v = 1 ∧ CRu h B n y
def OkR (n : Int) (x : RST) : Prop := OkS n x ∧ x.2.1 ≤ x.1 ∧ 0 ≤ x.2.2.1
theorem PQ.okr {n : Int} {F : List Bool → Option (List Bool)} {x y : RST} (h : PQ n F x y) (o : OkR n x) : OkR n y := by
  refine ⟨h.ok o.1, ?_, ?_⟩
  · have := h.2.2
    have := o.2.1
    omega
  · have := h.1.1
    have := o.2.2
    omega
theorem F123.ruf {a j : Int} (z : F123 a j) : RuF a j := by
  unfold F123 at z
  unfold RuF
  omega
theorem F12.ruf {a j : Int} (z : F12 a j) : RuF a j := z.f123.ruf
/-- the tape moved, nothing else -/
theorem CRu.mv {h h' : MH} {B : Int → Int} {n p : Int} {x : RST} (C : CRu h B n x) (F : Fr F123 h h') (c : CS h' B n p) : CRu h' B n (mvp p x) := by
  obtain ⟨_, c1, c2, c3⟩ := C
  refine ⟨c, ?_, ?_, ?_⟩
  · rw [F.rd (by unfold F123; omega)]
    exact c1
  · rw [F.rd (by unfold F123; omega)]
    exact c2
  · show m_rd h' 16 = x.2.2.2
    rw [← c3]
    exact funext (fun j => F.rd (by unfold F123; omega))
theorem putC {h : MH} {B : Int → Int} {n c : Int} {x : RST} (C : CRu h B n x) (s0 : 0 ≤ x.2.1) (s1 : x.2.1 < 400) : ∃ h', GX6_put c h = some (1, h') ∧ Fr RuF h h' ∧ CRu h' B n (pu c x) := by
  obtain ⟨c0, c1, c2, c3⟩ := C
  unfold GX6_put
  rw [c1, if_pos s1, gd_ib s0 s1, gd_nil, rd_a (by decide), c1, w32_id (x := x.2.1 + 1) (by omega) (by omega)]
  have F : Fr (fun a j => a = 16 ∨ (a = 15 ∧ j = 2)) h (m_wr (m_wr h 16 x.2.1 c) 15 2 (x.2.1 + 1)) := Fr.wr (Fr.wr Fr.rf (by omega)) (by omega)
  refine ⟨_, rfl, F.wk (fun a j z => Or.inr (by omega)), c0.fr F (fun a j z => by omega), rd_eq rfl rfl, ?_, ?_⟩
  · rw [F.rd (by omega)]
    exact c2
  · funext j
    show m_rd (m_wr (m_wr h 16 x.2.1 c) 15 2 (x.2.1 + 1)) 16 j = ups x.2.2.2 x.2.1 c j
    rw [rd_a (by decide)]
    by_cases k : j = x.2.1
    · rw [rd_eq rfl k, up_eq k]
    · rw [rd_ne (Or.inr k), up_k k, c3]
theorem cntC {h : MH} {B : Int → Int} {n a : Int} {x : RST} (C : CRu h B n x) (q0 : 0 ≤ x.2.2.1) (q1 : x.2.2.1 ≤ 60) (a0 : 0 ≤ a) (a1 : a ≤ 400) : ∃ v h', GX6_countPart a h = some (v, h') ∧ Fr RuF h h' ∧ (x.2.2.1 = 60 → v = 0 ∧ m_rd h' 1 3 = 1 + 8 * a + 3) ∧ (x.2.2.1 ≠ 60 → v = 1 ∧ CRu h' B n (x.1, x.2.1, x.2.2.1 + 1, x.2.2.2)) := by
  obtain ⟨c0, c1, c2, c3⟩ := C
  unfold GX6_countPart
  rw [c2, w32_id (x := x.2.2.1 + 1) (by omega) (by omega), rd_eq rfl rfl]
  have F : Fr (fun a j => a = 15 ∧ j = 6) h (m_wr h 15 6 (x.2.2.1 + 1)) := Fr.wr Fr.rf ⟨rfl, rfl⟩
  by_cases c : x.2.2.1 = 60
  · rw [if_pos (by omega), failC a0 a1 (by decide) (by decide) (by rw [F.rd (by omega)]; exact c0.2.2.1), bd_some, if_pos rfl]
    exact ⟨0, _, rfl, Fr.wr (F.wk (fun a j z => Or.inr (by omega))) (Or.inl ⟨rfl, Or.inr rfl⟩), fun _ => ⟨rfl, rd_eq rfl rfl⟩, fun z => absurd c z⟩
  · rw [if_neg (by omega)]
    refine ⟨1, _, rfl, F.wk (fun a j z => Or.inr (by omega)), fun z => absurd z c, fun _ => ⟨rfl, c0.fr F (fun a j z => by omega), ?_, rd_eq rfl rfl, ?_⟩⟩
    · rw [F.rd (by omega)]
      exact c1
    · show m_rd (m_wr h 15 6 (x.2.2.1 + 1)) 16 = x.2.2.2
      rw [← c3]
      exact funext (fun j => F.rd (by omega))
/-- a part counted and a value put -/
theorem cpC {h : MH} {B : Int → Int} {n a c : Int} {x : RST} (C : CRu h B n x) (o : OkS n x) (q0 : 0 ≤ x.2.2.1) (s1 : x.2.1 < 400) (a0 : 0 ≤ a) (a1 : a ≤ 400) : ∃ v h', bd (GX6_countPart a h) (fun x9 h8 => if x9 = 0 then some (0, h8) else bd (GX6_put c h8) (fun x11 h10 => if x11 = 0 then some (0, h10) else some (1, h10))) = some (v, h') ∧ Fr RuF h h' ∧ OutR h' B n v (cnp a x (fun y => .inr (pu c y))) := by
  obtain ⟨v, h1, e1, F1, r1, r2⟩ := cntC C q0 o.2.2.2 a0 a1
  unfold cnp
  rw [e1, bd_some]
  by_cases c6 : x.2.2.1 = 60
  · obtain ⟨v0, f⟩ := r1 c6
    rw [if_pos v0, if_pos c6]
    exact ⟨0, h1, rfl, F1, rfl, f, by omega⟩
  · obtain ⟨v1, C1⟩ := r2 c6
    rw [if_neg (by omega), if_neg c6]
    obtain ⟨h2, e2, F2, C2⟩ := putC (c := c) C1 o.2.2.1 s1
    rw [e2, bd_some, if_neg (by decide)]
    exact ⟨1, h2, rfl, F1.tr F2, rfl, C2⟩
theorem textOf_ok {v : Int} {h : MH} : GX6_textOf v h = some (txt v, h) := by
  unfold GX6_textOf txt
  (repeat' split) <;> rfl
theorem joinOf_ok {v : Int} {h : MH} : GX6_joinOf v h = some (jo v, h) := by
  unfold GX6_joinOf jo
  by_cases c1 : v = 37
  · rw [if_pos c1, if_pos c1]
  by_cases c2 : v = 42
  · subst c2
    rfl
  by_cases c3 : v = 43
  · subst c3
    rfl
  by_cases c4 : v = 45
  · subst c4
    rfl
  by_cases c5 : v = 47
  · subst c5
    rfl
  rw [if_neg c1, if_neg c1, if_neg c2, if_neg c2, if_neg c3, if_neg c3, if_neg c4, if_neg c4, if_neg c5, if_neg c5]
  (repeat' split) <;> rfl
theorem n_sk {B : Int → Int} {n p : Int} (n1 : n ≤ 400) (p0 : 0 ≤ p) : (∀ lo hi, nok B n lo hi (sk B n p) ↔ nok B n lo hi p) ∧ nvl B n (sk B n p) = nvl B n p ∧ npo B n (sk B n p) = npo B n p ∧ nfl B n (sk B n p) = nfl B n p := by
  have e := sk_i (B := B) (p := p) n1 p0
  have v : nvl B n (sk B n p) = nvl B n p := by
    unfold nvl
    rw [e]
  refine ⟨fun lo hi => ?_, v, ?_, ?_⟩
  · unfold nok
    rw [v, e]
  · unfold npo
    rw [e]
  · unfold nfl
    rw [e]
theorem val63_L {B : Int → Int} {n u : Int} {x : RST} {K0 : Int → MH → Option (Int × MH)} {K1 : MH → Option (Int × MH)} (b : BB B n) (hs : sk B n x.1 = x.1) : ∀ (m f : Nat) (v : Int) (h : MH), m < f → v + m = 11 → 0 ≤ v → CRu h B n x → ∃ h', Fr RuF h h' ∧ (fwd B n x.1 m v < 0 → GX6_takeValue_L63 u K0 K1 f v h = K1 h' ∧ CRu h' B n x) ∧ (¬ fwd B n x.1 m v < 0 → GX6_takeValue_L63 u K0 K1 f v h = K0 (fwd B n x.1 m v) h' ∧ CRu h' B n (mvp (x.1 + t_len (txt (fwd B n x.1 m v))) x)) := by
  intro m
  induction m with
  | zero =>
    intro f v h hf hv v0 C
    obtain ⟨q, rfl⟩ : ∃ q, f = q + 1 := ⟨f - 1, by omega⟩
    refine ⟨h, Fr.rf, fun _ => ⟨?_, C⟩, fun z => absurd (show fwd B n x.1 0 v < 0 by show (-1 : Int) < 0; decide) z⟩
    unfold GX6_takeValue_L63
    rw [if_neg (by omega)]
  | succ m ih =>
    intro f v h hf hv v0 C
    obtain ⟨q, rfl⟩ : ∃ q, f = q + 1 := ⟨f - 1, by omega⟩
    obtain ⟨x1, h1, e1, F1, a1, b1⟩ := wordC b C.1 hs (wd_txt v0 (by omega))
    have F1' : Fr F123 h h1 := F1.wk (fun _ _ z => z.f123)
    have st : GX6_takeValue_L63 u K0 K1 (q + 1) v h = if x1 = 0 then GX6_takeValue_L63 u K0 K1 q (v + 1) h1 else K0 v h1 := by
      conv => lhs; unfold GX6_takeValue_L63
      rw [if_pos (by omega), textOf_ok, bd_some, e1, bd_some, w32_id (x := v + 1) (by omega) (by omega)]
    by_cases c : wdp B n x.1 (txt v)
    · obtain ⟨y1, C1⟩ := a1 c
      rw [show fwd B n x.1 (m + 1) v = v from if_pos (dec_t c)]
      refine ⟨h1, F1.wk (fun _ _ z => z.ruf), fun z => by omega, fun _ => ⟨?_, C.mv F1' C1⟩⟩
      rw [st, if_neg (by omega)]
    · obtain ⟨y0, C1⟩ := b1 c
      rw [show fwd B n x.1 (m + 1) v = fwd B n x.1 m (v + 1) from if_neg (by rw [dec_f c]; decide)]
      obtain ⟨h', F', i1, i2⟩ := ih q (v + 1) h1 (by omega) (by omega) (by omega) (C.mv F1' C1)
      refine ⟨h', (F1.wk (fun _ _ z => z.ruf)).tr F', fun z => ?_, fun z => ?_⟩
      · rw [st, if_pos y0]
        exact i1 z
      · rw [st, if_pos y0]
        exact i2 z
theorem valC {B : Int → Int} {n : Int} {x : RST} {h : MH} (b : BB B n) (C : CRu h B n x) (o : OkR n x) (s1 : x.2.1 < 400) : ∃ v h', GX6_takeValue h = some (v, h') ∧ Fr RuF h h' ∧ OutR h' B n v (val B n x) := by
  obtain ⟨o1, o2, o3⟩ := o
  have b1 := b.2.1
  have p0 := o1.1
  have sb := sk_b (B := B) b.2.1 o1.1 o1.2.1
  obtain ⟨h1, e1, F1, a1⟩ := nextC b C.1.1 C.1.2.1 o1.1 o1.2.1
  have F1' : Fr F123 h h1 := F1.wk (fun _ _ z => z.f123)
  have C1 : CRu h1 B n (mvp (sk B n x.1) x) := C.mv F1' ⟨C.1.1.fr F1 (fun a j z => by unfold F12 at z; omega), a1, by rw [F1.rd (by unfold F12; omega)]; exact C.1.2.2.1, by omega, sb.2⟩
  unfold GX6_takeValue val
  rw [e1, bd_some, isDigitC, bd_some, a1]
  by_cases c1 : isD (bya B n (sk B n x.1)) = true
  · rw [if_pos c1, if_neg (by decide), if_pos c1]
    obtain ⟨k1, k2, k3, k4⟩ := n_sk (B := B) (p := x.1) b.2.1 o1.1
    by_cases c2 : nok B n 0 99999 x.1
    · obtain ⟨h2, e2, F2, C2⟩ := nokC b C1.1 (by decide) ((k1 0 99999).2 c2)
      have l := c2.2.2
      rw [show nvl B n (mvp (sk B n x.1) x).1 = nvl B n x.1 from k2] at e2
      rw [show npo B n (mvp (sk B n x.1) x).1 = npo B n x.1 from k3] at C2
      have nb := npo_b (B := B) b.2.1 o1.1 o1.2.1
      rw [e2, bd_some, if_neg (by omega), if_pos (dec_t c2)]
      obtain ⟨v, h3, e3, F3, r3⟩ := cpC (a := sk B n x.1) (c := nvl B n x.1) (C1.mv F2 C2) (x := mvp (npo B n x.1) (mvp (sk B n x.1) x)) ⟨by show (0 : Int) ≤ npo B n x.1; omega, by show npo B n x.1 ≤ n; omega, o1.2.2.1, o1.2.2.2⟩ o3 s1 (by omega) (by omega)
      rw [e3]
      exact ⟨v, h3, rfl, (F1.wk (fun _ _ z => z.ruf)).tr ((F2.wk (fun _ _ z => z.ruf)).tr F3), r3⟩
    · obtain ⟨h2, e2, F2, a2, a3⟩ := nnoC b C1.1 (by decide) (fun z => c2 ((k1 0 99999).1 z))
      rw [show nfl B n (mvp (sk B n x.1) x).1 = nfl B n x.1 from k4] at a2 a3
      rw [e2, bd_some, if_pos rfl, if_neg (by rw [dec_f c2]; decide)]
      exact ⟨0, h2, rfl, (F1.wk (fun _ _ z => z.ruf)).tr (F2.wk (fun _ _ z => z.ruf)), rfl, a2, a3⟩
  · rw [if_neg c1, if_pos rfl, if_neg c1]
    obtain ⟨h2, F2, i1, i2⟩ := val63_L (u := sk B n x.1) (K0 := fun w5 h6 => bd (GX6_countPart (sk B n x.1) h6) (fun x9 h8 => if x9 = 0 then some (0, h8) else bd (GX6_put (m_w32 ((-1) - w5)) h8) (fun x11 h10 => if x11 = 0 then some (0, h10) else some (1, h10)))) (K1 := fun h7 => bd (GX9_fail (sk B n x.1) 0 h7) (fun x13 h12 => gd [GT x13] (some (x13, h12)))) b (x := mvp (sk B n x.1) x) (sk_i b.2.1 o1.1) 11 FU 0 h1 (by decide) (by decide) (by decide) C1
    by_cases c2 : wov B n (sk B n x.1) < 0
    · obtain ⟨e2, C2⟩ := i1 c2
      rw [e2, if_pos c2, failC (by omega) (by omega) (by omega) (by omega) C2.1.2.2.1, bd_some, gd_cons (show GT 0 from Or.inl rfl), gd_nil]
      exact ⟨0, _, rfl, Fr.wr ((F1.wk (fun _ _ z => z.ruf)).tr F2) (Or.inl ⟨rfl, Or.inr rfl⟩), rfl, rd_eq rfl rfl, by omega⟩
    · obtain ⟨e2, C2⟩ := i2 c2
      have e2' : GX6_takeValue_L63 (sk B n x.1) _ _ FU 0 h1 = _ := e2
      rcases wov_p (B := B) (n := n) (q := sk B n x.1) with z | ⟨w0, w1, w2⟩
      · omega
      obtain ⟨l1, l2⟩ := wd_end b (wd_txt w0 w1) (by omega) sb.2 w2
      rw [e2', if_neg c2]
      rw [show fwd B n (mvp (sk B n x.1) x).1 11 0 = wov B n (sk B n x.1) from rfl] at C2 ⊢
      rw [w32_id (x := -1 - wov B n (sk B n x.1)) (by omega) (by omega)]
      obtain ⟨v, h3, e3, F3, r3⟩ := cpC (a := sk B n x.1) (c := -1 - wov B n (sk B n x.1)) C2 ⟨by show (0 : Int) ≤ sk B n x.1 + t_len (txt (wov B n (sk B n x.1))); omega, by show sk B n x.1 + t_len (txt (wov B n (sk B n x.1))) ≤ n; omega, o1.2.2.1, o1.2.2.2⟩ o3 s1 (by omega) (by omega)
      rw [e3]
      exact ⟨v, h3, rfl, (F1.wk (fun _ _ z => z.ruf)).tr (F2.tr F3), r3⟩
