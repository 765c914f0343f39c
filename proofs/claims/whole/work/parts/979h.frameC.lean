/-! FRAME read by the class -/
def CS (h : MH) (B : Int → Int) (n p : Int) : Prop := TpC h B n ∧ m_rd h 1 2 = p ∧ m_rd h 1 3 = 0 ∧ 0 ≤ p ∧ p ≤ n
def RdF (a j : Int) : Prop := (a = 1 ∧ (j = 2 ∨ j = 3)) ∨ (3 ≤ a ∧ a < 15)
def OutC (h : MH) (B : Int → Int) (n x : Int) (c : Int) (R : PR) : Prop := match R with
  | .inl f => x = 0 ∧ m_rd h 1 3 = f ∧ 0 < f
  | .inr r => x = 1 ∧ CS h B n r.1 ∧ ShR h 4 r.2 ∧ WkR h 7 (beg r.2) ∧ TW c r.2
theorem F123.rdf {a j : Int} (z : F123 a j) : RdF a j := by
  unfold F123 at z
  unfold RdF
  omega
theorem nokC {B : Int → Int} {n p lo hi : Int} {h : MH} (b : BB B n) (C : CS h B n p) (l0 : 0 ≤ lo) (ok : nok B n lo hi p) : ∃ h', GX9_takeNumber lo hi h = some (nvl B n p, h') ∧ Fr F123 h h' ∧ CS h' B n (npo B n p) := by
  obtain ⟨T, hp, z, p0, p1⟩ := C
  obtain ⟨x, h', e, F, a1, a2⟩ := takeNumC (hi := hi) b T hp p0 p1 z l0
  obtain ⟨x1, x2, x3⟩ := a1 ok
  have nb := npo_b (B := B) b.2.1 p0 p1
  rw [x1] at e
  exact ⟨h', e, F, T.f123 F, x2, x3, by omega, by omega⟩
theorem nnoC {B : Int → Int} {n p lo hi : Int} {h : MH} (b : BB B n) (C : CS h B n p) (l0 : 0 ≤ lo) (no : ¬ nok B n lo hi p) : ∃ h', GX9_takeNumber lo hi h = some (-1, h') ∧ Fr F123 h h' ∧ m_rd h' 1 3 = nfl B n p ∧ 0 < nfl B n p := by
  obtain ⟨T, hp, z, p0, p1⟩ := C
  obtain ⟨x, h', e, F, a1, a2⟩ := takeNumC (hi := hi) b T hp p0 p1 z l0
  obtain ⟨x1, x2⟩ := a2 no
  have nb := npo_b (B := B) b.2.1 p0 p1
  rw [x1] at e
  exact ⟨h', e, F, x2, nb.2.2⟩
theorem lay25_L {r : Int} {K : MH → Option MH} (r0 : 0 ≤ r) (r1 : r ≤ 4) : ∀ (m f : Nat) (i : Int) (h : MH), m < f → i + m = 5 → 1 ≤ i → m_rd h 4 0 = r → (∀ j, 0 ≤ j → j < i → m_rd h 5 j = pw r j) → ∃ h', GX8_lay_L25 4 K f i h = K h' ∧ Fr (fun a _ => a = 5) h h' ∧ ∀ j, 0 ≤ j → j < 5 → m_rd h' 5 j = pw r j := by
  intro m
  induction m with
  | zero =>
    intro f i h hf hi i0 hr hj
    obtain ⟨q, rfl⟩ : ∃ q, f = q + 1 := ⟨f - 1, by omega⟩
    conv => enter [1, h', 1, 1]; unfold GX8_lay_L25
    rw [if_pos (by omega)]
    exact ⟨h, rfl, Fr.rf, fun j j0 j1 => hj j j0 (by omega)⟩
  | succ m ih =>
    intro f i h hf hi i0 hr hj
    obtain ⟨q, rfl⟩ : ∃ q, f = q + 1 := ⟨f - 1, by omega⟩
    have ps : pw r i = pw r (i - 1) * r := by
      have := pw_s (b := r) (n := i - 1) (by omega)
      rw [show i - 1 + 1 = i by omega] at this
      exact this
    have pb := pw_b (b := r) (n := i) r0 r1 (by omega) (by omega)
    conv => enter [1, h', 1, 1]; unfold GX8_lay_L25
    simp only [hl]
    rw [if_neg (by omega), w32_id (x := i - 1) (by omega) (by omega), gd_ib (by omega) (by omega), gd_ib (by omega) (by omega), gd_nil, w32_id (x := i + 1) (by omega) (by omega), show (4 : Int) + 1 = 5 from rfl, hr, hj (i - 1) (by omega) (by omega), ← ps, w32_id (x := pw r i) (by omega) (by omega)]
    obtain ⟨h', e', F', a'⟩ := ih q (i + 1) (m_wr h 5 i (pw r i)) (by omega) (by omega) (by omega) (by rw [rd_a (by decide)]; exact hr) (fun j j0 j1 => by
      by_cases c : j = i
      · rw [rd_eq rfl c, c]
      · rw [rd_ne (Or.inr c)]
        exact hj j j0 (by omega))
    exact ⟨h', e', Fr.tr (Fr.wr Fr.rf rfl) F', a'⟩
theorem lay73_L {K : MH → Option MH} : ∀ (m f : Nat) (v : Int) (h : MH), m < f → v + m = 6 → 0 ≤ v → ∃ h', GX8_lay_L73 4 K f v h = K h' ∧ Fr (fun a j => a = 6 ∧ v ≤ j) h h' ∧ ∀ i, v ≤ i → i < 6 → m_rd h' 6 i = 5 := by
  intro m
  induction m with
  | zero =>
    intro f v h hf hv v0
    obtain ⟨q, rfl⟩ : ∃ q, f = q + 1 := ⟨f - 1, by omega⟩
    conv => enter [1, h', 1, 1]; unfold GX8_lay_L73
    rw [if_neg (by omega)]
    exact ⟨h, rfl, Fr.rf, fun i i0 i1 => by omega⟩
  | succ m ih =>
    intro f v h hf hv v0
    obtain ⟨q, rfl⟩ : ∃ q, f = q + 1 := ⟨f - 1, by omega⟩
    conv => enter [1, h', 1, 1]; unfold GX8_lay_L73
    rw [if_pos (by omega), gd_ib v0 (by omega), gd_nil, w32_id (x := v + 1) (by omega) (by omega), show (4 : Int) + 2 = 6 from rfl]
    obtain ⟨h', e', F', a'⟩ := ih q (v + 1) (m_wr h 6 v 5) (by omega) (by omega) (by omega)
    refine ⟨h', e', Fr.tr (Fr.wr Fr.rf ⟨rfl, Int.le_refl _⟩) (F'.wk (fun a j z => ⟨z.1, by have := z.2; omega⟩)), fun i i0 i1 => ?_⟩
    by_cases c : i = v
    · rw [F'.rd (by omega), rd_eq rfl c]
    · exact a' i (by omega) i1
theorem lay8_ok {r d s : Int} {T : Int → Int} {h : MH} (r0 : 0 ≤ r) (r1 : r ≤ 4) (d0 : 0 ≤ d) (d1 : d ≤ 4) : ∃ h', GX8_lay 4 r d s h = some h' ∧ Fr (fun a _ => 4 ≤ a ∧ a < 7) h h' ∧ ShR h' 4 (shS r d s T) := by
  obtain ⟨c0, c1, c2, c3, c4⟩ := sh_c (r := r) (d := d) (s := s) (T := T)
  unfold GX8_lay
  have F0 : Fr (fun a _ => 4 ≤ a ∧ a < 7) h (m_wr (m_wr (m_wr (m_wr h 4 0 r) 4 1 d) 4 2 s) (4 + 1) 0 1) := Fr.wr (Fr.wr (Fr.wr (Fr.wr Fr.rf (by omega)) (by omega)) (by omega)) (by omega)
  have q0 : m_rd (m_wr (m_wr (m_wr (m_wr h 4 0 r) 4 1 d) 4 2 s) (4 + 1) 0 1) 4 0 = r := by
    rw [rd_ne (by omega), rd_ne (by omega), rd_ne (by omega), rd_eq rfl rfl]
  have q1 : m_rd (m_wr (m_wr (m_wr (m_wr h 4 0 r) 4 1 d) 4 2 s) (4 + 1) 0 1) 4 1 = d := by
    rw [rd_ne (by omega), rd_ne (by omega), rd_eq rfl rfl]
  have q2 : m_rd (m_wr (m_wr (m_wr (m_wr h 4 0 r) 4 1 d) 4 2 s) (4 + 1) 0 1) 4 2 = s := by
    rw [rd_ne (by omega), rd_eq rfl rfl]
  have q5 : ∀ j, 0 ≤ j → j < 1 → m_rd (m_wr (m_wr (m_wr (m_wr h 4 0 r) 4 1 d) 4 2 s) (4 + 1) 0 1) 5 j = pw r j := fun j j0 j1 => by
    have j2 : j = 0 := by omega
    rw [rd_eq (show (5 : Int) = 4 + 1 from rfl) j2, j2, pw_0]
  generalize m_wr (m_wr (m_wr (m_wr h 4 0 r) 4 1 d) 4 2 s) (4 + 1) 0 1 = g at F0 q0 q1 q2 q5 ⊢
  obtain ⟨h1, e1, F1, a1⟩ := lay25_L (K := fun h1 => bd (GX8_prefixesOf 4 (m_rd h1 4 1) h1) (fun x3 h2 => GX8_lay_L73 4 (fun h4 => some h4) FU 0 (m_wr h2 4 3 x3))) r0 r1 4 FU 1 g (by decide) (by decide) (by decide) q0 q5
  rw [e1, F1.rd (by omega), q1]
  have ep : GX8_prefixesOf 4 d h1 = some (pw r d, h1) := by
    unfold GX8_prefixesOf
    rw [if_neg (by omega), if_neg (by omega), gd_ib d0 (by omega), gd_nil, show (4 : Int) + 1 = 5 from rfl, a1 d d0 (by omega)]
  rw [ep, bd_some]
  obtain ⟨h2, e2, F2, a2⟩ := lay73_L (K := fun h4 => some h4) 6 FU 0 (m_wr h1 4 3 (pw r d)) (by decide) (by decide) (by decide)
  rw [e2]
  have Fa : Fr (fun a _ => 4 ≤ a ∧ a < 7) g h2 := (F1.wk (fun a j z => by omega)).tr ((Fr.wr Fr.rf (by omega)).tr (F2.wk (fun a j z => by omega)))
  refine ⟨h2, rfl, F0.tr Fa, ?_, ?_, ?_, ?_, fun i i0 i1 => ?_, fun i i0 i1 => ?_⟩
  · rw [F2.rd (by omega), rd_ne (by omega), F1.rd (by omega), q0, c1]
  · rw [F2.rd (by omega), rd_ne (by omega), F1.rd (by omega), q1, c2]
  · rw [F2.rd (by omega), rd_ne (by omega), F1.rd (by omega), q2, c3]
  · rw [F2.rd (by omega), rd_eq rfl rfl]
    unfold cod
    rw [c0, if_pos rfl, c1, c2]
  · rw [show (4 : Int) + 1 = 5 from rfl, F2.rd (by omega), rd_ne (by omega), a1 i i0 i1, c0, if_pos rfl, c1]
  · rw [show (4 : Int) + 2 = 6 from rfl, a2 i i0 i1, c4 i i0 i1]
