/-! what each part of the invariant reads -/
theorem PlR.cg {h h' : MH} {p : Int} {S : Int → Int} (H : PlR h p S) (e : ∀ a j, p ≤ a → a < p + 4 → m_rd h' a j = m_rd h a j) : PlR h' p S := by
  obtain ⟨a, b⟩ := H
  refine ⟨by rw [e _ _ (by omega) (by omega)]; exact a, fun i h0 h1 => ?_⟩
  rw [e _ _ (by omega) (by omega), e _ _ (by omega) (by omega), e _ _ (by omega) (by omega)]
  exact b i h0 h1
theorem WkR.cg {h h' : MH} {w : Int} {S : Int → Int} (H : WkR h w S) (e : ∀ a j, w ≤ a → a < w + 8 → m_rd h' a j = m_rd h a j) : WkR h' w S := by
  obtain ⟨a1, a2, a3, a4, a5, a6, a7⟩ := H
  refine ⟨?_, ?_, ?_, a4.cg (fun a j z1 z2 => e a j (by omega) (by omega)), fun i h0 h1 => ?_, fun i h0 h1 => ?_, fun i h0 h1 => ?_⟩
  · rw [e _ _ (by omega) (by omega)]; exact a1
  · rw [e _ _ (by omega) (by omega)]; exact a2
  · rw [e _ _ (by omega) (by omega)]; exact a3
  · rw [e _ _ (by omega) (by omega)]; exact a5 i h0 h1
  · rw [e _ _ (by omega) (by omega)]; exact a6 i h0 h1
  · rw [e _ _ (by omega) (by omega)]; exact a7 i h0 h1
theorem ShR.cg {h h' : MH} {p : Int} {S : Int → Int} (H : ShR h p S) (e : ∀ a j, p ≤ a → a < p + 3 → m_rd h' a j = m_rd h a j) : ShR h' p S := by
  obtain ⟨a1, a2, a3, a4, a5, a6⟩ := H
  refine ⟨?_, ?_, ?_, ?_, fun i h0 h1 => ?_, fun i h0 h1 => ?_⟩
  · rw [e _ _ (by omega) (by omega)]; exact a1
  · rw [e _ _ (by omega) (by omega)]; exact a2
  · rw [e _ _ (by omega) (by omega)]; exact a3
  · rw [e _ _ (by omega) (by omega)]; exact a4
  · rw [e _ _ (by omega) (by omega)]; exact a5 i h0 h1
  · rw [e _ _ (by omega) (by omega)]; exact a6 i h0 h1
theorem DkR.cg {h h' : MH} {D : Int} {S : Int → Int} {f x : Int} (H : DkR h D S f x) (e : ∀ a j, D ≤ a → a < D + 23 → m_rd h' a j = m_rd h a j) : DkR h' D S f x := by
  obtain ⟨a1, a2, a3, a4, a5, a6, a7⟩ := H
  refine ⟨a1.cg (fun a j z1 z2 => e a j (by omega) (by omega)), a2.cg (fun a j z1 z2 => e a j (by omega) (by omega)), a3.cg (fun a j z1 z2 => e a j (by omega) (by omega)), ?_, ?_, ?_, fun i h0 h1 => ?_⟩
  · rw [e _ _ (by omega) (by omega)]; exact a4
  · rw [e _ _ (by omega) (by omega)]; exact a5
  · rw [e _ _ (by omega) (by omega)]; exact a6
  · rw [e _ _ (by omega) (by omega), e _ _ (by omega) (by omega), e _ _ (by omega) (by omega)]
    exact a7 i h0 h1
def RdT (a j : Int) : Prop := (a = 1 ∧ j = 1) ∨ (a = 334 ∧ j = 1) ∨ a = 2 ∨ a = 335
def RdD (a j : Int) : Prop := (20 ≤ a ∧ a < 43) ∨ a = 344 ∨ (a = 334 ∧ (j = 2 ∨ j = 21 ∨ j = 22))
def RdI (a j : Int) : Prop := (44 ≤ a ∧ a < 137) ∨ (355 ≤ a ∧ a < 359) ∨ (a = 334 ∧ j = 2)
def RdP (a j : Int) : Prop := (a = 0 ∧ (j = 9 ∨ j = 10)) ∨ (a = 334 ∧ j = 25) ∨ (138 ≤ a ∧ a < 298) ∨ a = 344 ∨ a = 345
def RdR (a j : Int) : Prop := (a = 0 ∧ j = 4) ∨ (a = 334 ∧ j = 2) ∨ a = 19 ∨ a = 336 ∨ a = 338 ∨ a = 339 ∨ (359 ≤ a ∧ a % 5 ≠ 0)
theorem KK.cg {h h' : MH} (H : KK h) (k1 : h'.1 = h.1) (k2 : h'.2.1 = h.2.1) : KK h' := by
  unfold KK m_ok at *
  rw [k1, k2]
  exact H
theorem TapeI.cg {h h' : MH} (H : TapeI h) (e : ∀ a j, RdT a j → m_rd h' a j = m_rd h a j) : TapeI h' := by
  unfold RdT at e
  have e1 := e 1 1 (by omega)
  have e2 := e 334 1 (by omega)
  obtain ⟨a1, a2, a3, a4⟩ := H
  refine ⟨by omega, by omega, by omega, fun i h0 h1 => ?_⟩
  rw [e 2 i (by omega), e 335 i (by omega)]
  exact a4 i h0 (by omega)
theorem DeskI.cg {h h' : MH} (H : DeskI h) (e : ∀ a j, RdD a j → m_rd h' a j = m_rd h a j) : DeskI h' := by
  unfold RdD at e
  have e1 : m_rd h' 344 = m_rd h 344 := funext fun j => e 344 j (by omega)
  obtain ⟨a1, a2⟩ := H
  unfold DeskI
  rw [e1, e 334 21 (by omega), e 334 22 (by omega), e 334 2 (by omega)]
  exact ⟨a1.cg (fun a j z1 z2 => e a j (by omega)), a2⟩
theorem ImgI.cg {h h' : MH} (H : ImgI h) (e : ∀ a j, RdI a j → m_rd h' a j = m_rd h a j) : ImgI h' := by
  unfold RdI at e
  intro k k0 k1
  have e1 : (fun i => m_rd h' 355 (167 * k + i)) = (fun i => m_rd h 355 (167 * k + i)) := funext fun j => e 355 _ (by omega)
  rw [e1, e 44 k (by omega), e 358 k (by omega), e 356 k (by omega), e 357 k (by omega), e 334 2 (by omega)]
  obtain ⟨a1, a2⟩ := H k k0 k1
  refine ⟨a1, fun hk => ?_⟩
  obtain ⟨b1, b2⟩ := a2 hk
  exact ⟨b1.cg (fun a j z1 z2 => e a j (by omega)), b2⟩
theorem PastI.cg {h h' : MH} (H : PastI h) (e : ∀ a j, RdP a j → m_rd h' a j = m_rd h a j) : PastI h' := by
  unfold RdP at e
  have e1 : m_rd h' 344 = m_rd h 344 := funext fun j => e 344 j (by omega)
  have e2 : m_rd h' 345 = m_rd h 345 := funext fun j => e 345 j (by omega)
  have e3 := e 0 9 (by omega)
  have e4 := e 0 10 (by omega)
  have e5 := e 334 25 (by omega)
  unfold PastI
  rw [e1, e2, e3, e4, e5]
  obtain ⟨a1, a2, a3, a4, a5, a6⟩ := H
  refine ⟨a1, a2, a3, a4, a5, fun j h0 h1 => ?_⟩
  obtain ⟨b1, b2⟩ := a6 j h0 h1
  exact ⟨b1.cg (fun a j z1 z2 => e a j (by omega)), b2⟩
theorem RulI.cg {h h' : MH} {k r : Int} (H : RulI h k r) (hr : 359 ≤ r) (hm : r % 5 = 4) (ek : ∀ a, r ≤ a → a < r + 5 → h'.2.1 a = h.2.1 a) (e : ∀ a j, a = 336 ∨ a = 338 ∨ a = 339 ∨ (r + 2 ≤ a ∧ a < r + 5) → m_rd h' a j = m_rd h a j) : RulI h' k r := by
  have e2 : m_rd h' (r + 2) = m_rd h (r + 2) := funext fun j => e _ j (by omega)
  have e3 : m_rd h' (r + 3) = m_rd h (r + 3) := funext fun j => e _ j (by omega)
  have e4 : m_rd h' (r + 4) = m_rd h (r + 4) := funext fun j => e _ j (by omega)
  have e5 : m_rd h' 336 = m_rd h 336 := funext fun j => e _ j (by omega)
  have e6 : m_rd h' 338 = m_rd h 338 := funext fun j => e _ j (by omega)
  have e7 : m_rd h' 339 = m_rd h 339 := funext fun j => e _ j (by omega)
  unfold RulI fromR m_kd m_ln at *
  rw [e2, e3, e4, e5, e6, e7, ek r (by omega) (by omega), ek (r + 1) (by omega) (by omega), ek (r + 2) (by omega) (by omega), ek (r + 3) (by omega) (by omega), ek (r + 4) (by omega) (by omega)]
  exact H
theorem RulesI.cg {h h' : MH} (H : RulesI h) (k1 : h'.1 = h.1) (k2 : h'.2.1 = h.2.1) (e : ∀ a j, RdR a j → m_rd h' a j = m_rd h a j) : RulesI h' := by
  unfold RdR at e
  have e3 := e 0 4 (by omega)
  have e4 := e 334 2 (by omega)
  unfold RulesI
  rw [e3, e4, k1]
  obtain ⟨a1, a2, a3, a4, a5, a6⟩ := H
  refine ⟨a1, a2, a3, a4, a5, fun k h0 h1 => ?_⟩
  obtain ⟨b1, b2⟩ := a6 k h0 h1
  rw [e 19 k (by omega)]
  exact ⟨b1, b2.cg (by omega) (by omega) (fun a _ _ => by rw [k2]) (fun a j z => e a j (by omega))⟩
/-- scratch: what no part of the invariant reads -/
def Scr (a j : Int) : Prop := (3 ≤ a ∧ a < 19) ∨ (a = 1 ∧ 2 ≤ j ∧ j ≤ 3) ∨ (298 ≤ a ∧ a < 334) ∨ (a = 334 ∧ j ≠ 1 ∧ j ≠ 2 ∧ j ≠ 21 ∧ j ≠ 22 ∧ j ≠ 25) ∨ (340 ≤ a ∧ a < 344) ∨ a = 337 ∨ (346 ≤ a ∧ a < 355) ∨ (359 ≤ a ∧ a % 5 = 0)
theorem Inv.scr {h h' : MH} (H : Inv h) (f : Fr Scr h h') : Inv h' := by
  obtain ⟨i1, i2, i3, i4, i5, i6⟩ := H
  obtain ⟨f1, f2, f3⟩ := f
  unfold Scr at f3
  refine ⟨i1.cg f1 f2, i2.cg ?_, i3.cg f1 f2 ?_, i4.cg ?_, i5.cg ?_, i6.cg ?_⟩
  · intro a j z
    unfold RdT at z
    exact f3 a j (by omega)
  · intro a j z
    unfold RdR at z
    exact f3 a j (by omega)
  · intro a j z
    unfold RdD at z
    exact f3 a j (by omega)
  · intro a j z
    unfold RdI at z
    exact f3 a j (by omega)
  · intro a j z
    unfold RdP at z
    exact f3 a j (by omega)
