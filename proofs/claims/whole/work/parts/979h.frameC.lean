/-! FRAME read by the class -/
def CS (h : MH) (B : Int → Int) (n p : Int) : Prop := TpC h B n ∧ m_rd h 1 2 = p ∧ m_rd h 1 3 = 0 ∧ 0 ≤ p ∧ p ≤ n
def RdF (a j : Int) : Prop := (a = 1 ∧ (j = 2 ∨ j = 3)) ∨ (3 ≤ a ∧ a < 15)
def OutC (h : MH) (B : Int → Int) (n x : Int) (c : Int) (R : PR) : Prop := match R with
  | .inl f => x = 0 ∧ m_rd h 1 3 = f ∧ 0 < f
  | .inr r => x = 1 ∧ CS h B n r.1 ∧ ShR h 4 r.2 ∧ WkR h 7 (beg r.2) ∧ TW c r.2
theorem F123.rdf {a j : Int} (z : F123 a j) : RdF a j := by
  unfold F123 at z
  unfold RdF
  omega
theorem nokC {B : Int → Int} {n p lo hi : Int} {h : MH} (b : BB B n) (C : CS h B n p) (l0 : 0 ≤ lo) (ok : nok B n lo hi p) : ∃ h', GX9_takeNumber lo hi h = some (nvl B n p, h') ∧ Fr F123 h h' ∧ CS h' B n (npo B n p) := by
  obtain ⟨T, hp, z, p0, p1⟩ := C
  obtain ⟨x, h', e, F, a1, a2⟩ := takeNumC (hi := hi) b T hp p0 p1 z l0
  obtain ⟨x1, x2, x3⟩ := a1 ok
  have nb := npo_b (B := B) b.2.1 p0 p1
  rw [x1] at e
  exact ⟨h', e, F, T.f123 F, x2, x3, by omega, by omega⟩
theorem nnoC {B : Int → Int} {n p lo hi : Int} {h : MH} (b : BB B n) (C : CS h B n p) (l0 : 0 ≤ lo) (no : ¬ nok B n lo hi p) : ∃ h', GX9_takeNumber lo hi h = some (-1, h') ∧ Fr F123 h h' ∧ m_rd h' 1 3 = nfl B n p ∧ 0 < nfl B n p := by
  obtain ⟨T, hp, z, p0, p1⟩ := C
  obtain ⟨x, h', e, F, a1, a2⟩ := takeNumC (hi := hi) b T hp p0 p1 z l0
  obtain ⟨x1, x2⟩ := a2 no
  have nb := npo_b (B := B) b.2.1 p0 p1
  rw [x1] at e
  exact ⟨h', e, F, x2, nb.2.2⟩
theorem lay8_s {t i : Int} {K : MH → Option MH} {f : Nat} {h : MH} (i0 : 1 ≤ i) (i1 : i ≤ 4) : GX8_lay_L25 t K (f + 1) i h = GX8_lay_L25 t K f (i + 1) (m_wr h (t + 1) i (m_w32 (m_rd h (t + 1) (i - 1) * m_rd h t 0))) := by
  conv => lhs; unfold GX8_lay_L25
  simp only [hl]
  rw [if_neg (by omega), w32_id (x := i - 1) (by omega) (by omega), gd_ib (by omega) (by omega), gd_ib (by omega) (by omega), gd_nil, w32_id (x := i + 1) (by omega) (by omega)]
theorem lay8_e {t : Int} {K : MH → Option MH} {f : Nat} {h : MH} : GX8_lay_L25 t K (f + 1) 5 h = K h := by
  conv => lhs; unfold GX8_lay_L25
  rw [if_pos (by decide)]
theorem lay73_L {t : Int} {K : MH → Option MH} : ∀ (m f : Nat) (v : Int) (h : MH), m < f → v + m = 6 → 0 ≤ v → ∃ h', GX8_lay_L73 t K f v h = K h' ∧ Fr (fun a _ => a = t + 2) h h' ∧ ∀ i, v ≤ i → i < 6 → m_rd h' (t + 2) i = 5 := by
  intro m
  induction m with
  | zero =>
    intro f v h hf hv v0
    obtain ⟨q, rfl⟩ : ∃ q, f = q + 1 := ⟨f - 1, by omega⟩
    conv => enter [1, h', 1, 1]; unfold GX8_lay_L73
    rw [if_neg (by omega)]
    exact ⟨h, rfl, Fr.rf, fun i i0 i1 => by omega⟩
  | succ m ih =>
    intro f v h hf hv v0
    obtain ⟨q, rfl⟩ : ∃ q, f = q + 1 := ⟨f - 1, by omega⟩
    conv => enter [1, h', 1, 1]; unfold GX8_lay_L73
    rw [if_pos (by omega), gd_ib v0 (by omega), gd_nil, w32_id (x := v + 1) (by omega) (by omega)]
    obtain ⟨h', e', F', a'⟩ := ih q (v + 1) (m_wr h (t + 2) v 5) (by omega) (by omega) (by omega)
    exact ⟨h', e', Fr.tr (Fr.wr Fr.rf rfl) F', fun i i0 i1 => by
      by_cases c : i = v
      · sorry
      · exact a' i (by omega) i1⟩
