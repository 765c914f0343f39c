/-! WORTH -/
def fro (te : Int → Int) (j : Int) : Int := if j = 0 then 0 else te (j - 1)
def woF (g se te w : Int → Int) : Nat → Int → Int
  | 0, _ => 0
  | m + 1, j => if te j = se j ∨ vl g w (se j) (te j) ≠ 0 then vl g w (fro te j) (se j) else woF g se te w m (j + 1)
def wor (g se te : Int → Int) (n : Int) : (Int → Int) → Int := fun w => woF g se te w n.toNat 0
theorem evs_x {w w' : Int → Int} {c : Int} {vs : List Int} (e : ∀ i, 0 ≤ i → i < 11 → w i = w' i) : evs w c vs = evs w' c vs := by
  by_cases h : -11 ≤ c
  · rw [evs_p h, evs_p h]
    by_cases h2 : 0 ≤ c
    · rw [if_pos h2, if_pos h2]
    · rw [if_neg h2, if_neg h2, e _ (by omega) (by omega)]
  · unfold evs
    rw [if_neg h, if_neg h]
theorem evr_x {g w w' : Int → Int} (e : ∀ i, 0 ≤ i → i < 11 → w i = w' i) : ∀ (m : Nat) (a : Int) (vs : List Int), evr g w m a vs = evr g w' m a vs := by
  intro m
  induction m with
  | zero =>
    intro a vs
    rfl
  | succ m ih =>
    intro a vs
    show evr g w m (a + 1) (evs w (g a) vs) = evr g w' m (a + 1) (evs w' (g a) vs)
    rw [evs_x e, ih]
theorem wo_x {g se te w w' : Int → Int} (e : ∀ i, 0 ≤ i → i < 11 → w i = w' i) : ∀ (m : Nat) (j : Int), woF g se te w m j = woF g se te w' m j := by
  have v : ∀ a b, vl g w a b = vl g w' a b := fun a b => by
    unfold vl
    rw [evr_x e]
  intro m
  induction m with
  | zero =>
    intro j
    rfl
  | succ m ih =>
    intro j
    show (if te j = se j ∨ vl g w (se j) (te j) ≠ 0 then vl g w (fro te j) (se j) else woF g se te w m (j + 1)) = (if te j = se j ∨ vl g w' (se j) (te j) ≠ 0 then vl g w' (fro te j) (se j) else woF g se te w' m (j + 1))
    rw [v, v, ih]
theorem RulI.fr {h h' : MH} {k r : Int} {P : Int → Int → Prop} (H : RulI h k r) (hr : 359 ≤ r) (hm : r % 5 = 4) (F : Fr P h h') (n : ∀ a j, P a j → a ≠ 336 ∧ a ≠ 338 ∧ a ≠ 339 ∧ ¬ (r + 2 ≤ a ∧ a < r + 5)) : RulI h' k r := by
  refine H.cg hr hm (fun a _ _ => by rw [F.2.1]) (fun a j z => F.rd (fun y => ?_))
  have := n a j y
  omega
theorem worth_L {r k : Int} {g se te w : Int → Int} (r0 : 359 ≤ r) (rm : r % 5 = 4) : ∀ (m f : Nat) (j : Int) (h : MH), m < f → j + m = m_rd h 339 k → 0 ≤ j → RulI h k r → m_rd h (r + 2) = g → m_rd h (r + 3) = se → m_rd h (r + 4) = te → m_rd h 322 = w → h.2.1 322 = (2, 11) → ∃ h', GX5_worth_L4 r 322 (fun w1 w2 h3 => gd [IB w2 (m_ln h3 (r + 3))] (bd (GX5_run r w1 (m_rd h3 (r + 3) w2) 322 h3) (fun x6 h5 => some (x6, h5)))) (fun h4 => some (0, h4)) f (fro te j) j h = some (woF g se te w m j, h') ∧ Fr (fun x _ => x = r + 1) h h' := by
  intro m
  induction m with
  | zero =>
    intro f j h hf hj j0 R hg hs ht hw hk
    obtain ⟨q, rfl⟩ : ∃ q, f = q + 1 := ⟨f - 1, by omega⟩
    have l3 := R.2.2.1.1
    conv => enter [1, h', 1, 1]; unfold GX5_worth_L4
    rw [if_neg (by omega)]
    exact ⟨h, rfl, Fr.rf⟩
  | succ m ih =>
    intro f j h hf hj j0 R hg hs ht hw hk
    obtain ⟨q, rfl⟩ : ∃ q, f = q + 1 := ⟨f - 1, by omega⟩
    obtain ⟨⟨q1, q2, q3, q4, q5⟩, ⟨n0, n1⟩, ⟨l3, l4, l5, l6⟩, st, np, cl⟩ := id R
    obtain ⟨⟨b1, b2, b3, b4⟩, m0, m1, ty0, alt⟩ := cl j j0 (by omega)
    have hfr : fromR h r j = fro te j := by
      unfold fromR fro
      rw [ht]
    rw [hfr] at b1 b2
    rw [hs] at b2 b3
    rw [ht] at b3 b4
    rw [hfr, hs, hg] at ty0
    rw [hg] at np st
    rw [hs, ht, hg] at alt
    have gb : ∀ i, 0 ≤ i → i < m_ln h (r + 2) → -32 ≤ g i ∧ g i ≤ 99999 := fun i i0 i1 => (st i i0 i1).2
    have sumC : ∀ h3, Fr (fun x _ => x = r + 1) h h3 → ∃ h', gd [IB j (m_ln h3 (r + 3))] (bd (GX5_run r (fro te j) (m_rd h3 (r + 3) j) 322 h3) (fun x6 h5 => some (x6, h5))) = some (vl g w (fro te j) (se j), h') ∧ Fr (fun x _ => x = r + 1) h h' := by
      intro h3 F3
      have e3 : m_ln h3 (r + 3) = m_ln h (r + 3) := by
        unfold m_ln
        rw [F3.2.1]
      have eg : m_rd h3 (r + 2) = g := by
        rw [← hg]
        exact funext fun x => F3.rd (by omega)
      have es : m_rd h3 (r + 3) j = se j := by
        rw [← hs]
        exact F3.rd (by omega)
      obtain ⟨h', e, F'⟩ := run_ok (h := h3) (r := r) (a := fro te j) (b := se j) (n := m_ln h (r + 2)) (w := w) b1 b2 (by omega) n1 gb np r0 eg (by unfold m_ln; rw [F3.2.1]) (by rw [← hw]; exact funext fun x => F3.rd (by omega)) (by rw [F3.2.1]; exact hk) ty0
      rw [gd_ib j0 (by omega), gd_nil, es, e, bd_some]
      exact ⟨h', rfl, F3.tr F'⟩
    conv => enter [1, h', 1, 1]; unfold GX5_worth_L4
    rw [if_pos (by omega), gd_ib j0 (by omega), gd_nil, gd_ib j0 (by omega), gd_nil, ht, hs]
    simp only [jn]
    by_cases c : te j = se j
    · rw [if_pos c, if_neg (by decide), show woF g se te w (m + 1) j = vl g w (fro te j) (se j) from if_pos (Or.inl c)]
      have sc := sumC h Fr.rf
      rw [hs] at sc
      exact sc
    · obtain ⟨a1, a2, a3, a4⟩ := alt.resolve_left (fun z => c z.1)
      obtain ⟨h3, e3, F3⟩ := run_ok (h := h) (r := r) (a := se j) (b := te j) (n := m_ln h (r + 2)) (w := w) (by omega) (by omega) b4 n1 gb np r0 hg rfl hw hk a4
      rw [if_neg c, if_pos trivial, gd_ib j0 (by omega), gd_nil, gd_ib j0 (by omega), gd_nil, e3, bd_some]
      by_cases c2 : vl g w (se j) (te j) = 0
      · have e4 : m_ln h3 (r + 4) = m_ln h (r + 4) := by
          unfold m_ln
          rw [F3.2.1]
        have et : m_rd h3 (r + 4) = te := by
          rw [← ht]
          exact funext fun x => F3.rd (by omega)
        have ej : te j = fro te (j + 1) := by
          unfold fro
          rw [if_neg (by omega), show j + 1 - 1 = j by omega]
        rw [if_pos (lc_eq.2 c2), gd_ib j0 (by omega), gd_nil, et, ej, w32_id (x := j + 1) (by omega) (by omega), show woF g se te w (m + 1) j = woF g se te w m (j + 1) from if_neg (fun z => z.elim c (fun y => y c2))]
        obtain ⟨h', e', F'⟩ := ih q (j + 1) h3 (by omega) (by rw [F3.rd (by omega)]; omega) (by omega) (R.fr r0 rm F3 (fun a i z => by omega)) (by rw [← hg]; exact funext fun x => F3.rd (by omega)) (by rw [← hs]; exact funext fun x => F3.rd (by omega)) et (by rw [← hw]; exact funext fun x => F3.rd (by omega)) (by rw [F3.2.1]; exact hk)
        exact ⟨h', e', F3.tr F'⟩
      · rw [if_neg (fun z => c2 (lc_eq.1 z)), show woF g se te w (m + 1) j = vl g w (fro te j) (se j) from if_pos (Or.inr c2)]
        exact sumC h3 F3
theorem summed_L {r k : Int} {g se te w : Int → Int} (r0 : 359 ≤ r) (rm : r % 5 = 4) (k0 : 0 ≤ k) (k6 : k < 6) : ∀ (m f : Nat) (j : Int) (h : MH), m < f → j + m = m_rd h 339 k → 0 ≤ j → RulI h k r → m_rd h (r + 2) = g → m_rd h (r + 3) = se → m_rd h (r + 4) = te → m_rd h 343 = w → ∃ h', GX12_summedBy_L2 k (fun w1 h2 => gd [IB w1 288] (gd [IB (m_w32 (w1 + 1)) 288] (bd (GX12_reckons k (m_rd h2 338 w1) (m_rd h2 338 (m_w32 (w1 + 1))) h2) (fun x5 h4 => some (x5, h4))))) (fun h3 => some (0, h3)) f j h = some (woF g se te w m j, h') ∧ Fr (fun a j => a = 342 ∨ (a = 334 ∧ j = 18)) h h' := by
  intro m
  induction m with
  | zero =>
    intro f j h hf hj j0 R hg hs ht hw
    obtain ⟨q, rfl⟩ : ∃ q, f = q + 1 := ⟨f - 1, by omega⟩
    conv => enter [1, h', 1, 1]; unfold GX12_summedBy_L2
    rw [gd_ib k0 k6, gd_nil, if_neg (by omega)]
    exact ⟨h, rfl, Fr.rf⟩
  | succ m ih =>
    intro f j h hf hj j0 R hg hs ht hw
    obtain ⟨q, rfl⟩ : ∃ q, f = q + 1 := ⟨f - 1, by omega⟩
    obtain ⟨⟨q1, q2, q3, q4, q5⟩, ⟨n0, n1⟩, ⟨l3, l4, l5, l6⟩, st, np, cl⟩ := id R
    obtain ⟨⟨b1, b2, b3, b4⟩, m0, m1, ty0, alt⟩ := cl j j0 (by omega)
    have hfr : fromR h r j = fro te j := by
      unfold fromR fro
      rw [ht]
    rw [hfr] at b1 b2
    rw [hs] at b2 b3
    rw [ht] at b3 b4
    rw [hfr, hs, hg] at ty0
    rw [hfr] at m0
    rw [hs] at m1
    rw [hg] at np st
    rw [hs, ht, hg] at alt
    have gb : ∀ i, 0 ≤ i → i < m_ln h (r + 2) → -32 ≤ g i ∧ g i ≤ 99999 := fun i i0 i1 => (st i i0 i1).2
    have sumC : ∀ h3, Fr (fun a j => a = 342 ∨ (a = 334 ∧ j = 18)) h h3 → ∃ h', gd [IB (48 * k + 4 * j) 288] (gd [IB (m_w32 (48 * k + 4 * j + 1)) 288] (bd (GX12_reckons k (m_rd h3 338 (48 * k + 4 * j)) (m_rd h3 338 (m_w32 (48 * k + 4 * j + 1))) h3) (fun x5 h4 => some (x5, h4)))) = some (vl g w (fro te j) (se j), h') ∧ Fr (fun a j => a = 342 ∨ (a = 334 ∧ j = 18)) h h' := by
      intro h3 F3
      obtain ⟨⟨h', e, F'⟩, _⟩ := reckons_ok (h := h3) (k := k) (a := fro te j) (b := se j) (n := m_ln h (r + 2)) (w := w) k0 k6 b1 b2 (by omega) n1 gb np (fun i i0 i1 => by rw [F3.rd (by omega)]; exact (st i i0 i1).1) (by rw [← hw]; exact funext fun x => F3.rd (by omega)) ty0
      rw [gd_ib (by omega) (by omega), gd_nil, w32_id (x := 48 * k + 4 * j + 1) (by omega) (by omega), gd_ib (by omega) (by omega), gd_nil, F3.rd (by omega), m0, F3.rd (by omega), m1, e, bd_some]
      exact ⟨h', rfl, F3.tr F'⟩
    conv => enter [1, h', 1, 1]; unfold GX12_summedBy_L2
    rw [gd_ib k0 k6, gd_nil, if_pos (by omega), w32_id (x := 48 * k) (by omega) (by omega), w32_id (x := 4 * j) (by omega) (by omega), w32_id (x := 48 * k + 4 * j) (by omega) (by omega), w32_id (x := 48 * k + 4 * j + 2) (by omega) (by omega), w32_id (x := 48 * k + 4 * j + 3) (by omega) (by omega), gd_ib (by omega) (by omega), gd_nil]
    by_cases c : te j = se j
    · have a2 : m_rd h 338 (48 * k + 4 * j + 2) = -1 := (alt.resolve_right (fun z => by omega)).2
      rw [a2, if_pos (by decide), show woF g se te w (m + 1) j = vl g w (fro te j) (se j) from if_pos (Or.inl c)]
      exact sumC h Fr.rf
    · obtain ⟨a1, a2, a3, a4⟩ := alt.resolve_left (fun z => c z.1)
      obtain ⟨⟨h3, e3, F3⟩, tv⟩ := reckons_ok (h := h) (k := k) (a := se j) (b := te j) (n := m_ln h (r + 2)) (w := w) k0 k6 (by omega) (by omega) b4 n1 gb np (fun i i0 i1 => (st i i0 i1).1) hw a4
      have tv' := tv rfl
      rw [a2, a3, if_neg (by omega), gd_ib (by omega) (by omega), gd_nil, gd_ib (by omega) (by omega), gd_nil, e3, bd_some]
      by_cases c2 : vl g w (se j) (te j) = 0
      · rw [if_neg (fun z => by have := lc_eq.1 z; omega), w32_id (x := j + 1) (by omega) (by omega), show woF g se te w (m + 1) j = woF g se te w m (j + 1) from if_neg (fun z => z.elim c (fun y => y c2))]
        obtain ⟨h', e', F'⟩ := ih q (j + 1) h3 (by omega) (by rw [F3.rd (by omega)]; omega) (by omega) (R.fr r0 rm F3 (fun a i z => by omega)) (by rw [← hg]; exact funext fun x => F3.rd (by omega)) (by rw [← hs]; exact funext fun x => F3.rd (by omega)) (by rw [← ht]; exact funext fun x => F3.rd (by omega)) (by rw [← hw]; exact funext fun x => F3.rd (by omega))
        exact ⟨h', e', F3.tr F'⟩
      · rw [if_pos (lc_eq.2 (by omega)), show woF g se te w (m + 1) j = vl g w (fro te j) (se j) from if_pos (Or.inr c2)]
        exact sumC h3 F3
theorem rules_W {h : MH} (H : Inv h) {k : Int} (k0 : -1 ≤ k) (k1 : k < m_rd h 0 4) : ∃ r o, (∀ g, KeepR h g → GX11_ruleAt k g = some (r, g)) ∧ RwC h r o ∧ RwM h k o := by
  obtain ⟨a1, a2, a3, a4, a5, a6⟩ := H.2.2.1
  by_cases c : k < 0
  · refine ⟨-1, none, fun g _ => ?_, rfl, c⟩
    unfold GX11_ruleAt
    rw [if_pos c]
  obtain ⟨p1, R⟩ := a6 k (by omega) k1
  have kr : ∀ g, KeepR h g → RulI g k (359 + 5 * k) := fun g K => R.cg (by omega) (by omega) (fun a _ _ => by rw [K.2.1]) (fun a j z => K.2.2 a j (by unfold RdR; omega))
  have row : ∀ g, KeepR h g → ∀ a, a = 339 ∨ (359 ≤ a ∧ a % 5 ≠ 0) → m_rd g a = m_rd h a := fun g K a z => funext fun j => K.2.2 a j (by unfold RdR; omega)
  have k322 : ∀ g, KeepR h g → g.2.1 322 = (2, 11) := fun g K => by
    rw [K.2.1]
    exact H.1.2.2 322 (by decide)
  refine ⟨359 + 5 * k, some (wor (m_rd h (359 + 5 * k + 2)) (m_rd h (359 + 5 * k + 3)) (m_rd h (359 + 5 * k + 4)) (m_rd h 339 k)), fun g K => ?_, ⟨⟨by omega, by omega, ⟨R.1.1, by omega, by omega⟩⟩, fun w w' e => wo_x e _ _, fun g K => ?_⟩, ⟨⟨by omega, by omega⟩, fun w w' e => wo_x e _ _, fun g K => ?_⟩⟩
  · unfold GX11_ruleAt
    rw [if_neg c, K.2.2 0 4 (by unfold RdR; omega), if_pos k1, gd_ib (by omega) (by omega), gd_nil, K.2.2 19 k (by unfold RdR; omega), p1]
  · have Rg := kr g K
    have e9 := congrFun (row g K 339 (by omega)) k
    have l := Rg.2.2.1
    obtain ⟨h', e, F⟩ := worth_L (k := k) (w := m_rd g 322) (r := 359 + 5 * k) (by omega) (by omega) (m_rd h 339 k).toNat FU 0 g (by unfold FU; omega) (by omega) (by omega) Rg (row g K _ (by omega)) (row g K _ (by omega)) (row g K _ (by omega)) rfl (k322 g K)
    refine ⟨h', ?_, F⟩
    unfold GX5_worth wor
    exact e
  · have Rg := kr g K
    have e9 := congrFun (row g K 339 (by omega)) k
    have l := Rg.2.2.1
    obtain ⟨h', e, F⟩ := summed_L (k := k) (w := m_rd g 343) (r := 359 + 5 * k) (by omega) (by omega) (by omega) (by omega) (m_rd h 339 k).toNat FU 0 g (by unfold FU; omega) (by omega) (by omega) Rg (row g K _ (by omega)) (row g K _ (by omega)) (row g K _ (by omega)) rfl
    refine ⟨h', ?_, F⟩
    unfold GX12_summedBy wor
    exact e
