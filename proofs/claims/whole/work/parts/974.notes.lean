/-! NOTES -/
/-- notes of row S, of turns a to b, are so by what lies in row T -/
def nhd (S T : Int → Int) (a b : Int) : Prop := ∀ i, 0 ≤ i → i < S 166 → a ≤ S (136 + 3 * i) → S (136 + 3 * i) ≤ b → T (14 + S (137 + 3 * i)) = S (138 + 3 * i)
def alQ (o : WF) (T : Int → Int) (a : Int) : Prop := ∀ m : Nat, a + m ≤ 60 → nhd T (itS o (m + 1) T) (a + m) (a + m)
theorem nhd_sg {S S' T T' : Int → Int} {a b : Int} (N : WfN S) (s3 : S 3 ≤ 6) (e : ∀ k, 136 ≤ k → k < 167 → S' k = S k) (e2 : ∀ k, 14 ≤ k → k < 20 → T' k = T k) : nhd S' T' a b ↔ nhd S T a b := by
  obtain ⟨n0, n1, n2⟩ := N
  have q := e 166 (by omega) (by omega)
  unfold nhd
  rw [q]
  constructor
  · intro H i i0 i1 z1 z2
    have y := n2 i i0 i1
    have := H i i0 i1 (by rw [e _ (by omega) (by omega)]; exact z1) (by rw [e _ (by omega) (by omega)]; exact z2)
    rw [e _ (by omega) (by omega), e _ (by omega) (by omega), e2 _ (by omega) (by omega)] at this
    exact this
  · intro H i i0 i1 z1 z2
    have y := n2 i i0 i1
    rw [e _ (by omega) (by omega)] at z1 z2
    rw [e _ (by omega) (by omega), e _ (by omega) (by omega), e2 _ (by omega) (by omega)]
    exact H i i0 i1 z1 z2
theorem al_step {B a : Int} {o : WF} {T : Int → Int} (H : Wf B T) (N : WfN T) (a1 : a ≤ 60) : alQ o T a ↔ nhd T (paS o T) a a ∧ alQ o (paS o T) (a + 1) := by
  have s3 := H.1.b.2.2.2.2
  have sw : ∀ (X : Int → Int) (x y : Int), nhd (paS o T) X x y ↔ nhd T X x y := fun X x y => nhd_sg N s3 (fun k z1 z2 => pa_k H (by omega)) (fun k _ _ => rfl)
  constructor
  · intro h
    refine ⟨?_, fun m hm => ?_⟩
    · have := h 0 (by omega)
      rw [show a + ((0 : Nat) : Int) = a by omega] at this
      exact this
    · rw [sw]
      have := h (m + 1) (by omega)
      rw [show a + ((m + 1 : Nat) : Int) = a + 1 + m by omega] at this
      exact this
  · intro ⟨h1, h2⟩ m hm
    cases m with
    | zero =>
      rw [show a + ((0 : Nat) : Int) = a by omega]
      exact h1
    | succ m =>
      have := h2 m (by omega)
      rw [sw] at this
      rw [show a + ((m + 1 : Nat) : Int) = a + 1 + m by omega]
      exact this
theorem al_end {a : Int} {o : WF} {T : Int → Int} (no : ∀ i, 0 ≤ i → i < T 166 → T (136 + 3 * i) < a) : alQ o T a ∧ ∀ X b, nhd T X a b := by
  refine ⟨fun m hm i i0 i1 z1 z2 => ?_, fun X b i i0 i1 z1 z2 => ?_⟩
  · have := no i i0 i1
    omega
  · have := no i i0 i1
    omega
theorem al_0 {a : Int} {o : WF} {T : Int → Int} (N : WfN T) (s3 : T 3 ≤ 6) (n : T 12 = 0) : alQ o T a ↔ nhd T T a 60 := by
  obtain ⟨n0, n1, n2⟩ := N
  constructor
  · intro h i i0 i1 z1 z2
    have y := n2 i i0 i1
    have := h (T (136 + 3 * i) - a).toNat (by omega) i i0 i1 (by omega) (by omega)
    rw [it_0 _ T n _ (by omega)] at this
    exact this
  · intro h m hm i i0 i1 z1 z2
    have y := n2 i i0 i1
    rw [it_0 _ T n _ (by omega)]
    exact h i i0 i1 (by omega) (by omega)
/-! the class's notes -/
def NtR (h : MH) (S : Int → Int) : Prop := m_rd h 20 5 = S 166 ∧ ∀ i, 0 ≤ i → i < S 166 → m_rd h 40 i = S (136 + 3 * i) ∧ m_rd h 41 i = S (137 + 3 * i) ∧ m_rd h 42 i = S (138 + 3 * i)
theorem NtR.cg {h h' : MH} {S : Int → Int} {P : Int → Int → Prop} (R : NtR h S) (F : Fr P h h') (n : ∀ a j, P a j → a ≠ 20 ∧ a ≠ 40 ∧ a ≠ 41 ∧ a ≠ 42) : NtR h' S := by
  obtain ⟨a, b⟩ := R
  refine ⟨by rw [F.rd (fun z => (n _ _ z).1 rfl)]; exact a, fun i i0 i1 => ?_⟩
  rw [F.rd (fun z => (n _ _ z).2.1 rfl), F.rd (fun z => (n _ _ z).2.2.1 rfl), F.rd (fun z => (n _ _ z).2.2.2 rfl)]
  exact b i i0 i1
theorem nh_L {a b : Int} {S T : Int → Int} {h : MH} (N : WfN S) (s3 : S 3 ≤ 6) (R : NtR h S) (ly : ∀ i, 0 ≤ i → i < 6 → m_rd h 320 i = T (14 + i)) (hk : h.2.1 320 = (1, 6)) : ∀ (m f : Nat) (v : Int), m < f → v + m = S 166 → 0 ≤ v → ∃ x, GX2_notesHold_L3 20 a b 320 (fun h1 => some (0, h1)) (fun h2 => some (1, h2)) f v h = some (x, h) ∧ (x = 0 ∨ x = 1) ∧ (x = 1 ↔ ∀ i, v ≤ i → i < S 166 → a ≤ S (136 + 3 * i) → S (136 + 3 * i) ≤ b → T (14 + S (137 + 3 * i)) = S (138 + 3 * i)) := by
  obtain ⟨n0, n1, n2⟩ := N
  have k1 : m_kd h 320 = 1 := by
    unfold m_kd
    rw [hk]
  have k2 : m_ln h 320 = 6 := by
    unfold m_ln
    rw [hk]
  intro m
  induction m with
  | zero =>
    intro f v hf hv v0
    obtain ⟨q, rfl⟩ : ∃ q, f = q + 1 := ⟨f - 1, by omega⟩
    conv => enter [1, x, 1, 1]; unfold GX2_notesHold_L3
    rw [R.1, if_neg (by omega)]
    exact ⟨1, rfl, Or.inr rfl, fun _ i i0 i1 => by omega, fun _ => rfl⟩
  | succ m ih =>
    intro f v hf hv v0
    obtain ⟨q, rfl⟩ : ∃ q, f = q + 1 := ⟨f - 1, by omega⟩
    obtain ⟨x, e, x01, xi⟩ := ih q (v + 1) (by omega) (by omega) (by omega)
    obtain ⟨r1, r2, r3⟩ := R.2 v v0 (by omega)
    have y := n2 v v0 (by omega)
    conv => enter [1, x, 1, 1]; unfold GX2_notesHold_L3
    rw [R.1, if_pos (by omega), gd_ib (by omega) (by omega), gd_nil, show (20 : Int) + 20 = 40 from rfl, show (20 : Int) + 21 = 41 from rfl, show (20 : Int) + 22 = 42 from rfl, r1, r2, r3, w32_id (x := v + 1) (by omega) (by omega), e]
    simp only [jn]
    have skip : ¬ (a ≤ S (136 + 3 * v) ∧ S (136 + 3 * v) ≤ b ∧ ¬ T (14 + S (137 + 3 * v)) = S (138 + 3 * v)) → (x = 1 ↔ ∀ i, v ≤ i → i < S 166 → a ≤ S (136 + 3 * i) → S (136 + 3 * i) ≤ b → T (14 + S (137 + 3 * i)) = S (138 + 3 * i)) := by
      intro no
      rw [xi]
      constructor
      · intro H i i0 i1 z1 z2
        by_cases c : i = v
        · rw [c] at z1 z2 ⊢
          by_cases d : T (14 + S (137 + 3 * v)) = S (138 + 3 * v)
          · exact d
          · exact absurd ⟨z1, z2, d⟩ no
        · exact H i (by omega) i1 z1 z2
      · intro H i i0 i1
        exact H i (by omega) i1
    by_cases c1 : S (136 + 3 * v) < a
    · rw [if_pos c1, if_pos trivial]
      exact ⟨x, rfl, x01, skip (by omega)⟩
    rw [if_neg c1, gd_ib (by omega) (by omega), gd_nil]
    by_cases c2 : b < S (136 + 3 * v)
    · rw [if_pos c2, if_pos trivial]
      exact ⟨x, rfl, x01, skip (by omega)⟩
    rw [if_neg c2, if_neg (by decide), gd_ib (by omega) (by omega), gd_cons ⟨by decide, k1, by omega, by omega⟩, gd_nil, gd_ib (by omega) (by omega), gd_nil, ly _ (by omega) (by omega)]
    by_cases c3 : T (14 + S (137 + 3 * v)) = S (138 + 3 * v)
    · rw [if_pos c3]
      exact ⟨x, rfl, x01, skip (fun z => z.2.2 c3)⟩
    · rw [if_neg c3]
      exact ⟨0, rfl, Or.inl rfl, fun z => absurd z (by decide), fun H => absurd (H v (by omega) (by omega) (by omega) (by omega)) c3⟩
theorem notesHold_ok {a b : Int} {S T : Int → Int} {h : MH} (N : WfN S) (s3 : S 3 ≤ 6) (R : NtR h S) (ly : ∀ i, 0 ≤ i → i < 6 → m_rd h 320 i = T (14 + i)) (hk : h.2.1 320 = (1, 6)) : ∃ x, GX2_notesHold 20 a b 320 h = some (x, h) ∧ (x = 0 ∨ x = 1) ∧ (x = 1 ↔ nhd S T a b) := by
  have n0 := N.1
  have n1 := N.2.1
  unfold GX2_notesHold nhd
  exact nh_L N s3 R ly hk (S 166).toNat FU 0 (by unfold FU; omega) (by omega) (by omega)
theorem ln_L {S : Int → Int} {h : MH} (N : WfN S) (R : NtR h S) : ∀ (m f : Nat) (x v : Int), m < f → v + m = S 166 → 0 ≤ v → -1 ≤ x → x ≤ 60 → (∀ i, 0 ≤ i → i < v → S (136 + 3 * i) ≤ x) → ∃ l, GX2_lastNotedTurn_L4 20 (fun w1 h2 => some (w1, h2)) f x v h = some (l, h) ∧ -1 ≤ l ∧ l ≤ 60 ∧ ∀ i, 0 ≤ i → i < S 166 → S (136 + 3 * i) ≤ l := by
  obtain ⟨n0, n1, n2⟩ := N
  intro m
  induction m with
  | zero =>
    intro f x v hf hv v0 x0 x1 hx
    obtain ⟨q, rfl⟩ : ∃ q, f = q + 1 := ⟨f - 1, by omega⟩
    conv => enter [1, l, 1, 1]; unfold GX2_lastNotedTurn_L4
    rw [R.1, if_neg (by omega)]
    exact ⟨x, rfl, x0, x1, fun i i0 i1 => hx i i0 (by omega)⟩
  | succ m ih =>
    intro f x v hf hv v0 x0 x1 hx
    obtain ⟨q, rfl⟩ : ∃ q, f = q + 1 := ⟨f - 1, by omega⟩
    obtain ⟨r1, r2, r3⟩ := R.2 v v0 (by omega)
    have y := n2 v v0 (by omega)
    conv => enter [1, l, 1, 1]; unfold GX2_lastNotedTurn_L4
    rw [R.1, if_pos (by omega), gd_ib (by omega) (by omega), gd_nil, show (20 : Int) + 20 = 40 from rfl, r1, w32_id (x := v + 1) (by omega) (by omega)]
    have mx : x ≤ m_mx x (S (136 + 3 * v)) ∧ S (136 + 3 * v) ≤ m_mx x (S (136 + 3 * v)) ∧ m_mx x (S (136 + 3 * v)) ≤ 60 := by
      unfold m_mx
      split <;> omega
    refine ih q _ (v + 1) (by omega) (by omega) (by omega) (by omega) (by omega) (fun i i0 i1 => ?_)
    by_cases c : i = v
    · rw [c]
      omega
    · have := hx i i0 (by omega)
      omega
theorem lastNoted_ok {S : Int → Int} {h : MH} (N : WfN S) (R : NtR h S) : ∃ l, GX2_lastNotedTurn 20 h = some (l, h) ∧ -1 ≤ l ∧ l ≤ 60 ∧ ∀ i, 0 ≤ i → i < S 166 → S (136 + 3 * i) ≤ l := by
  have n0 := N.1
  have n1 := N.2.1
  unfold GX2_lastNotedTurn
  exact ln_L N R (S 166).toNat FU (-1) 0 (by unfold FU; omega) (by omega) (by omega) (by omega) (by omega) (fun i i0 i1 => by omega)
theorem RuR.ly {h : MH} {S : Int → Int} (R : RuR h S) : ∀ i, 0 ≤ i → i < 6 → m_rd h 320 i = S (14 + i) := R.2.1.2.2.2.2.1
theorem ag_L {r l : Int} {o : WF} (l1 : l ≤ 60) : ∀ (m f : Nat) (v B : Int) (T : Int → Int) (h : MH), m < f → v + m = l + 1 → 0 ≤ v → RuR h T → Wf B T → B + m ≤ 100000 → WfN T → NtR h T → (∀ i, 0 ≤ i → i < T 166 → T (136 + 3 * i) ≤ l) → h.2.1 320 = (1, 6) → T 10 = v → RwC h r o → ∃ x h', GX7_agrees_L8 20 r l (fun h3 => some (0, h3)) (fun h4 => bd (GX2_notesHold 20 (m_rd h4 314 6) 60 320 h4) (fun x6 h5 => gd [GT x6] (some (x6, h5)))) f v h = some (x, h') ∧ Fr StC h h' ∧ (x = 0 ∨ x = 1) ∧ (x = 1 ↔ alQ o T v) := by
  have fin : ∀ (v : Int) (T : Int → Int) (h : MH), RuR h T → WfF T → WfN T → NtR h T → h.2.1 320 = (1, 6) → T 10 = v → (nhd T T v 60 ↔ alQ o T v) → ∃ x h', bd (GX2_notesHold 20 (m_rd h 314 6) 60 320 h) (fun x6 h5 => gd [GT x6] (some (x6, h5))) = some (x, h') ∧ Fr StC h h' ∧ (x = 0 ∨ x = 1) ∧ (x = 1 ↔ alQ o T v) := by
    intro v T h R F N NR hk tv iff
    obtain ⟨x, e, x01, xi⟩ := notesHold_ok (a := v) (b := 60) N F.b.2.2.2.2 NR R.ly hk
    rw [R.2.1.1, tv, e, bd_some, gd_cons (show GT x from x01), gd_nil]
    exact ⟨x, h, rfl, Fr.rf, x01, xi.trans iff⟩
  intro m
  induction m with
  | zero =>
    intro f v B T h hf hv v0 R H hB N NR no hk tv Rw
    obtain ⟨q, rfl⟩ : ∃ q, f = q + 1 := ⟨f - 1, by omega⟩
    conv => enter [1, x, 1, h', 1, 1]; unfold GX7_agrees_L8
    rw [if_pos (by omega)]
    have al := al_end (a := v) (o := o) (T := T) (fun i i0 i1 => by have := no i i0 i1; omega)
    exact fin v T h R H.1 N NR hk tv ⟨fun _ => al.1, fun _ => al.2 _ _⟩
  | succ m ih =>
    intro f v B T h hf hv v0 R H hB N NR no hk tv Rw
    obtain ⟨q, rfl⟩ : ∃ q, f = q + 1 := ⟨f - 1, by omega⟩
    have n12 := H.2.2.1.1
    have s3 := H.1.b.2.2.2.2
    conv => enter [1, x, 1, h', 1, 1]; unfold GX7_agrees_L8
    rw [if_neg (by omega), R.2.1.2.2.1]
    by_cases c : 0 < T 12
    · obtain ⟨h1, e1, F1, R1, T1⟩ := step_ok R H (by omega) Rw
      have NR1 : NtR h1 T := NR.cg F1 (fun a j z => by unfold StC at z; omega)
      have hk1 : h1.2.1 320 = (1, 6) := by
        rw [F1.2.1]
        exact hk
      have pk : ∀ k, 45 ≤ k → paS o T k = T k := fun k z => pa_k H (by omega)
      obtain ⟨x, e2, x01, xi⟩ := notesHold_ok (a := v) (b := v) (T := paS o T) N s3 NR1 R1.ly hk1
      have st := al_step (o := o) H N (a := v) (by omega)
      rw [if_pos c, e1, bd_some, e2, bd_some, w32_id (x := v + 1) (by omega) (by omega)]
      by_cases c2 : x = 0
      · rw [if_pos c2]
        refine ⟨0, h1, rfl, F1, Or.inl rfl, fun z => absurd z (by decide), fun z => ?_⟩
        have := xi.2 (st.1 z).1
        omega
      · rw [if_neg c2]
        have N1 : WfN (paS o T) := N.sg (pa_k H (by omega)) (fun k z1 z2 => pk k (by omega))
        have NR1' : NtR h1 (paS o T) := by
          refine ⟨by rw [pk 166 (by omega)]; exact NR1.1, fun i i0 i1 => ?_⟩
          rw [pk 166 (by omega)] at i1
          rw [pk _ (by omega), pk _ (by omega), pk _ (by omega)]
          exact NR1.2 i i0 i1
        obtain ⟨y, h', e', F', y01, yi⟩ := ih q (v + 1) (B + 1) (paS o T) h1 (by omega) (by omega) (by omega) R1 (pa_wf H) (by omega) N1 NR1' (fun i i0 i1 => by rw [pk 166 (by omega)] at i1; rw [pk _ (by omega)]; exact no i i0 i1) hk1 (by rw [pa_10]; omega) (Rw.kr (StC.kr F1))
        refine ⟨y, h', e', F1.tr F', y01, yi.trans ?_⟩
        rw [st]
        exact ⟨fun z => ⟨xi.1 (by omega), z⟩, fun z => z.2⟩
    · rw [if_neg c]
      exact fin v T h R H.1 N NR hk tv (al_0 N s3 (by omega)).symm
theorem agrees_ok {r : Int} {o : WF} {S T : Int → Int} {h : MH} (R : RuR h T) (H : Wf 0 T) (N : WfN S) (NR : NtR h S) (e : ∀ k, 136 ≤ k → k < 167 → T k = S k) (e3 : T 3 = S 3) (hk : h.2.1 320 = (1, 6)) (t0 : T 10 = 0) (Rw : RwC h r o) : ∃ x h', GX7_agrees 20 r h = some (x, h') ∧ Fr StC h h' ∧ (x = 0 ∨ x = 1) ∧ (x = 1 ↔ alQ o T 0) := by
  have NT : WfN T := N.sg e3 e
  have q := e 166 (by omega) (by omega)
  have n1 := N.2.1
  have NRT : NtR h T := by
    refine ⟨by rw [q]; exact NR.1, fun i i0 i1 => ?_⟩
    rw [q] at i1
    rw [e _ (by omega) (by omega), e _ (by omega) (by omega), e _ (by omega) (by omega)]
    exact NR.2 i i0 i1
  obtain ⟨l, el, l0, l1, no⟩ := lastNoted_ok NT NRT
  unfold GX7_agrees
  rw [el, bd_some]
  exact ag_L l1 (l + 1).toNat FU 0 0 T h (by unfold FU; omega) (by omega) (by omega) R H (by omega) NT NRT no hk t0 Rw
/-! the reference: all as the text told it -/
theorem bg3_L {K : MH → Option MH} : ∀ (m f : Nat) (v : Int) (h : MH), m < f → v + m = 82 → 10 ≤ v → ∃ h', GX12_begins_L3 K f v h = K h' ∧ Fr (fun a j => a = 344 ∧ v ≤ j ∧ j < 82) h h' ∧ ∀ k, v ≤ k → k < 82 → m_rd h' 344 k = 0 := by
  intro m
  induction m with
  | zero =>
    intro f v h hf hv v0
    obtain ⟨q, rfl⟩ : ∃ q, f = q + 1 := ⟨f - 1, by omega⟩
    conv => enter [1, h', 1, 1]; unfold GX12_begins_L3
    rw [if_neg (by omega)]
    exact ⟨h, rfl, Fr.rf, fun k k0 k1 => by omega⟩
  | succ m ih =>
    intro f v h hf hv v0
    obtain ⟨q, rfl⟩ : ∃ q, f = q + 1 := ⟨f - 1, by omega⟩
    conv => enter [1, h', 1, 1]; unfold GX12_begins_L3
    rw [if_pos (by omega), gd_ib (by omega) (by omega), gd_nil, w32_id (x := v + 1) (by omega) (by omega)]
    obtain ⟨h', e, F, z⟩ := ih q (v + 1) (m_wr h 344 v 0) (by omega) (by omega) (by omega)
    refine ⟨h', e, (Fr.wr Fr.rf (by omega)).tr (F.wk (fun a j z => by omega)), fun k k0 k1 => ?_⟩
    by_cases c : k = v
    · rw [F.rd (by omega), rd_eq rfl c]
    · exact z k (by omega) k1
theorem bg50_L {n : Int} {K : MH → Option MH} (n1 : n ≤ 12) : ∀ (m f : Nat) (v : Int) (h : MH), m < f → v + m = n → 0 ≤ v → m_rd h 344 5 = n → ∃ h', GX12_begins_L50 K f v h = K h' ∧ Fr (fun a j => a = 344 ∧ 26 + v ≤ j ∧ j < 26 + n) h h' ∧ ∀ k, v ≤ k → k < n → m_rd h' 344 (26 + k) = m_rd h 344 (124 + k) := by
  intro m
  induction m with
  | zero =>
    intro f v h hf hv v0 hn
    obtain ⟨q, rfl⟩ : ∃ q, f = q + 1 := ⟨f - 1, by omega⟩
    conv => enter [1, h', 1, 1]; unfold GX12_begins_L50
    rw [if_neg (by omega)]
    exact ⟨h, rfl, Fr.rf, fun k k0 k1 => by omega⟩
  | succ m ih =>
    intro f v h hf hv v0 hn
    obtain ⟨q, rfl⟩ : ∃ q, f = q + 1 := ⟨f - 1, by omega⟩
    conv => enter [1, h', 1, 1]; unfold GX12_begins_L50
    rw [if_pos (by omega), w32_id (x := 124 + v) (by omega) (by omega), w32_id (x := 26 + v) (by omega) (by omega), gd_ib (by omega) (by omega), gd_ib (by omega) (by omega), gd_nil, w32_id (x := v + 1) (by omega) (by omega)]
    obtain ⟨h', e, F, z⟩ := ih q (v + 1) (m_wr h 344 (26 + v) (m_rd h 344 (124 + v))) (by omega) (by omega) (by omega) (by rw [rd_ne (by omega)]; exact hn)
    refine ⟨h', e, (Fr.wr Fr.rf (by omega)).tr (F.wk (fun a j z => by omega)), fun k k0 k1 => ?_⟩
    by_cases c : k = v
    · rw [F.rd (by omega), rd_eq rfl (by omega), c]
    · rw [z k (by omega) k1, rd_ne (by omega)]
theorem bg86_L {n : Int} {K : MH → Option MH} (n1 : n ≤ 12) : ∀ (m f : Nat) (v : Int) (h : MH), m < f → v + m = 3 * n → 0 ≤ v → m_rd h 344 4 = n → ∃ h', GX12_begins_L86 K f v h = K h' ∧ Fr (fun a j => a = 344 ∧ 46 + v ≤ j ∧ j < 46 + 3 * n) h h' ∧ ∀ k, v ≤ k → k < 3 * n → m_rd h' 344 (46 + k) = m_rd h 344 (88 + k) := by
  intro m
  induction m with
  | zero =>
    intro f v h hf hv v0 hn
    obtain ⟨q, rfl⟩ : ∃ q, f = q + 1 := ⟨f - 1, by omega⟩
    conv => enter [1, h', 1, 1]; unfold GX12_begins_L86
    rw [hn, w32_id (x := 3 * n) (by omega) (by omega), if_neg (by omega)]
    exact ⟨h, rfl, Fr.rf, fun k k0 k1 => by omega⟩
  | succ m ih =>
    intro f v h hf hv v0 hn
    obtain ⟨q, rfl⟩ : ∃ q, f = q + 1 := ⟨f - 1, by omega⟩
    conv => enter [1, h', 1, 1]; unfold GX12_begins_L86
    rw [hn, w32_id (x := 3 * n) (by omega) (by omega), if_pos (by omega), w32_id (x := 88 + v) (by omega) (by omega), w32_id (x := 46 + v) (by omega) (by omega), gd_ib (by omega) (by omega), gd_ib (by omega) (by omega), gd_nil, w32_id (x := v + 1) (by omega) (by omega)]
    obtain ⟨h', e, F, z⟩ := ih q (v + 1) (m_wr h 344 (46 + v) (m_rd h 344 (88 + v))) (by omega) (by omega) (by omega) (by rw [rd_ne (by omega)]; exact hn)
    refine ⟨h', e, (Fr.wr Fr.rf (by omega)).tr (F.wk (fun a j z => by omega)), fun k k0 k1 => ?_⟩
    by_cases c : k = v
    · rw [F.rd (by omega), rd_eq rfl (by omega), c]
    · rw [z k (by omega) k1, rd_ne (by omega)]
theorem begins_ok {h : MH} {S : Int → Int} (sg : m_rd h 344 = S) (a0 : 0 ≤ S 4) (a1 : S 4 ≤ 12) (b0 : 0 ≤ S 5) (b1 : S 5 ≤ 12) : ∃ h', GX12_begins h = some h' ∧ Fr (fun a j => a = 344 ∧ 10 ≤ j ∧ j < 82) h h' ∧ m_rd h' 344 = beg S := by
  obtain ⟨g1, e1, F1, z1⟩ := bg3_L (K := fun h1 => hl (m_wr (m_wr h1 344 12 (m_rd h1 344 5)) 344 13 (m_rd (m_wr h1 344 12 (m_rd h1 344 5)) 344 4)) (fun h2 => GX12_begins_L50 (fun h3 => GX12_begins_L86 (fun h4 => some h4) FU 0 h3) FU 0 h2)) 72 FU 10 h (by unfold FU; omega) (by omega) (by omega)
  have s5 : m_rd g1 344 5 = S 5 := by rw [F1.rd (by omega), sg]
  have s4 : m_rd g1 344 4 = S 4 := by rw [F1.rd (by omega), sg]
  obtain ⟨g2, e2⟩ : ∃ g2, g2 = m_wr (m_wr g1 344 12 (m_rd g1 344 5)) 344 13 (m_rd (m_wr g1 344 12 (m_rd g1 344 5)) 344 4) := ⟨_, rfl⟩
  have F2 : Fr (fun a j => a = 344 ∧ (j = 12 ∨ j = 13)) g1 g2 := by
    rw [e2]
    exact (Fr.rf.wr (by omega)).wr (by omega)
  obtain ⟨g3, e3, F3, z3⟩ := bg50_L (n := S 5) (K := fun h3 => GX12_begins_L86 (fun h4 => some h4) FU 0 h3) b1 (S 5).toNat FU 0 g2 (by unfold FU; omega) (by omega) (by omega) (by rw [F2.rd (by omega)]; exact s5)
  obtain ⟨g4, e4, F4, z4⟩ := bg86_L (n := S 4) (K := fun h4 => some h4) a1 (3 * S 4).toNat FU 0 g3 (by unfold FU; omega) (by omega) (by omega) (by rw [F3.rd (by omega), F2.rd (by omega)]; exact s4)
  refine ⟨g4, ?_, (((F1.wk (fun a j z => by omega)).tr (F2.wk (fun a j z => by omega))).tr (F3.wk (fun a j z => by omega))).tr (F4.wk (fun a j z => by omega)), funext fun k => ?_⟩
  · unfold GX12_begins
    refine e1.trans ?_
    show GX12_begins_L50 (fun h3 => GX12_begins_L86 (fun h4 => some h4) FU 0 h3) FU 0 (m_wr (m_wr g1 344 12 (m_rd g1 344 5)) 344 13 (m_rd (m_wr g1 344 12 (m_rd g1 344 5)) 344 4)) = some g4
    rw [← e2]
    exact e3.trans e4
  · unfold beg
    by_cases c1 : k = 12
    · rw [if_pos c1, F4.rd (by omega), F3.rd (by omega), e2, rd_ne (by omega), rd_eq rfl c1, s5]
    rw [if_neg c1]
    by_cases c2 : k = 13
    · rw [if_pos c2, F4.rd (by omega), F3.rd (by omega), e2, rd_eq rfl c2, rd_ne (by omega), s4]
    rw [if_neg c2]
    by_cases c3 : 26 ≤ k ∧ k < 26 + S 5
    · have := z3 (k - 26) (by omega) (by omega)
      rw [show 26 + (k - 26) = k by omega] at this
      rw [if_pos c3, F4.rd (by omega), this, F2.rd (by omega), F1.rd (by omega), sg]
    rw [if_neg c3]
    by_cases c4 : 46 ≤ k ∧ k < 46 + 3 * S 4
    · have := z4 (k - 46) (by omega) (by omega)
      rw [show 46 + (k - 46) = k by omega] at this
      rw [if_pos c4, this, F3.rd (by omega), F2.rd (by omega), F1.rd (by omega), sg]
    rw [if_neg c4]
    by_cases c5 : 10 ≤ k ∧ k < 82
    · rw [if_pos c5, F4.rd (by omega), F3.rd (by omega), F2.rd (by omega), z1 k (by omega) (by omega)]
    · rw [if_neg c5, F4.rd (by omega), F3.rd (by omega), F2.rd (by omega), F1.rd (by omega), sg]
theorem beg_out {S X : Int → Int} (h4 : S 4 ≤ 12) (h5 : S 5 ≤ 12) (e : ∀ k, ¬ (10 ≤ k ∧ k < 82) → X k = S k) : beg X = beg S := by
  funext k
  unfold beg
  rw [e 5 (by omega), e 4 (by omega)]
  by_cases c1 : k = 12
  · rw [if_pos c1, if_pos c1]
  rw [if_neg c1, if_neg c1]
  by_cases c2 : k = 13
  · rw [if_pos c2, if_pos c2]
  rw [if_neg c2, if_neg c2]
  by_cases c3 : 26 ≤ k ∧ k < 26 + S 5
  · rw [if_pos c3, if_pos c3, e _ (by omega)]
  rw [if_neg c3, if_neg c3]
  by_cases c4 : 46 ≤ k ∧ k < 46 + 3 * S 4
  · rw [if_pos c4, if_pos c4, e _ (by omega)]
  rw [if_neg c4, if_neg c4]
  by_cases c5 : 10 ≤ k ∧ k < 82
  · rw [if_pos c5, if_pos c5]
  rw [if_neg c5, if_neg c5, e _ c5]
theorem ns_L {a : Int} {T : Int → Int} {h : MH} (sg : m_rd h 344 = T) (N : WfN T) (s3 : T 3 ≤ 6) : ∀ (m f : Nat) (v : Int), m < f → v + m = T 166 → 0 ≤ v → ∃ x, GX12_areNotesSo_L2 a (fun h1 => some (0, h1)) (fun h2 => some (1, h2)) f (3 * v) h = some (x, h) ∧ (x = 0 ∨ x = 1) ∧ (x = 1 ↔ ∀ i, v ≤ i → i < T 166 → a ≤ T (136 + 3 * i) → T (136 + 3 * i) ≤ a → T (14 + T (137 + 3 * i)) = T (138 + 3 * i)) := by
  obtain ⟨n0, n1, n2⟩ := N
  intro m
  induction m with
  | zero =>
    intro f v hf hv v0
    obtain ⟨q, rfl⟩ : ∃ q, f = q + 1 := ⟨f - 1, by omega⟩
    conv => enter [1, x, 1, 1]; unfold GX12_areNotesSo_L2
    rw [sg, w32_id (x := 3 * T 166) (by omega) (by omega), if_neg (by omega)]
    exact ⟨1, rfl, Or.inr rfl, fun _ i i0 i1 => by omega, fun _ => rfl⟩
  | succ m ih =>
    intro f v hf hv v0
    obtain ⟨q, rfl⟩ : ∃ q, f = q + 1 := ⟨f - 1, by omega⟩
    obtain ⟨x, e, x01, xi⟩ := ih q (v + 1) (by omega) (by omega) (by omega)
    have y := n2 v v0 (by omega)
    rw [show 3 * (v + 1) = 3 * v + 3 by omega] at e
    conv => enter [1, x, 1, 1]; unfold GX12_areNotesSo_L2
    rw [sg, w32_id (x := 3 * T 166) (by omega) (by omega), if_pos (by omega), w32_id (x := 136 + 3 * v) (by omega) (by omega), w32_id (x := 136 + 3 * v + 1) (by omega) (by omega), w32_id (x := 136 + 3 * v + 2) (by omega) (by omega), show 136 + 3 * v + 1 = 137 + 3 * v by omega, show 136 + 3 * v + 2 = 138 + 3 * v by omega, gd_ib (by omega) (by omega), gd_nil, w32_id (x := 14 + T (137 + 3 * v)) (by omega) (by omega), w32_id (x := 3 * v + 3) (by omega) (by omega), e]
    have skip : ¬ (a = T (136 + 3 * v) ∧ ¬ T (14 + T (137 + 3 * v)) = T (138 + 3 * v)) → (x = 1 ↔ ∀ i, v ≤ i → i < T 166 → a ≤ T (136 + 3 * i) → T (136 + 3 * i) ≤ a → T (14 + T (137 + 3 * i)) = T (138 + 3 * i)) := by
      intro no
      rw [xi]
      constructor
      · intro H i i0 i1 z1 z2
        by_cases c : i = v
        · rw [c] at z1 z2 ⊢
          by_cases d : T (14 + T (137 + 3 * v)) = T (138 + 3 * v)
          · exact d
          · exact absurd ⟨by omega, d⟩ no
        · exact H i (by omega) i1 z1 z2
      · intro H i i0 i1
        exact H i (by omega) i1
    by_cases c1 : T (136 + 3 * v) = a
    · rw [if_pos c1, gd_ib (by omega) (by omega), gd_ib (by omega) (by omega), gd_nil, gd_ib (by omega) (by omega), gd_nil]
      by_cases c3 : T (14 + T (137 + 3 * v)) = T (138 + 3 * v)
      · rw [if_pos c3]
        exact ⟨x, rfl, x01, skip (fun z => z.2 c3)⟩
      · rw [if_neg c3]
        exact ⟨0, rfl, Or.inl rfl, fun z => absurd z (by decide), fun H => absurd (H v (by omega) (by omega) (by omega) (by omega)) c3⟩
    · rw [if_neg c1]
      exact ⟨x, rfl, x01, skip (fun z => c1 z.1.symm)⟩
theorem areNotesSo_ok {a : Int} {T : Int → Int} {h : MH} (sg : m_rd h 344 = T) (N : WfN T) (s3 : T 3 ≤ 6) : ∃ x, GX12_areNotesSo a h = some (x, h) ∧ (x = 0 ∨ x = 1) ∧ (x = 1 ↔ nhd T T a a) := by
  have n0 := N.1
  have n1 := N.2.1
  unfold GX12_areNotesSo nhd
  exact ns_L sg N s3 (T 166).toNat FU 0 (by unfold FU; omega) (by omega) (by omega)
def AlM (a j : Int) : Prop := StM a j ∨ a = 353
theorem AlM.kr {h g : MH} (F : Fr AlM h g) : KeepR h g := F.kr (fun a j z => by unfold RdR; unfold AlM StM at z; omega)
theorem al39 {r t n s : Int} {T : Int → Int} {h : MH} {K : MH → Option (Int × MH)} (sg : m_rd h 344 = T) (r0 : 0 ≤ r) (r1 : r ≤ 6) (s0 : 0 ≤ T 3) (s3 : T 3 ≤ 6) : ∃ h', GX12_areAllSo_L39 r t s n K FU 0 h = K h' ∧ Fr (fun a j => a = 353 ∧ 6 * r ≤ j ∧ j < 6 * r + 6) h h' ∧ (n = t → ∀ i, 0 ≤ i → i < T 3 → m_rd h' 353 (6 * r + i) = T (14 + i)) ∧ (n ≠ t → h' = h) := by
  by_cases c : n = t
  · obtain ⟨g, e, F, p, q⟩ := cploop (L := GX12_areAllSo_L39 r t s n K) (K := K) (A := 353) (B := 344) (i0 := 6 * r) (j0 := 14) (N := T 3) (P := fun x => m_rd x 344 3 = T 3) (fun f v x px v0 v1 => by
      conv => lhs; unfold GX12_areAllSo_L39
      rw [px, if_pos v1, if_pos c, w32_id (x := 14 + v) (by omega) (by omega), w32_id (x := 6 * r) (by omega) (by omega), w32_id (x := 6 * r + v) (by omega) (by omega), gd_ib (by omega) (by omega), gd_ib (by omega) (by omega), gd_nil, w32_id (x := v + 1) (by omega) (by omega)]
      rfl) (fun f x px => by
      conv => lhs; unfold GX12_areAllSo_L39
      rw [px, if_neg (by omega)]) (fun x i v px => by rw [rd_ne (by omega)]; exact px) (by decide) (T 3).toNat FU 0 h (by unfold FU; omega) (by omega) (by omega) (by rw [sg])
    refine ⟨g, e, F.wk (fun a j z => by omega), fun _ i i0 i1 => ?_, fun z => absurd c z⟩
    rw [q i i0 i1, sg]
  · refine ⟨h, ?_, Fr.rf, fun z => absurd z c, fun _ => rfl⟩
    rw [show FU = 1999 + 1 from rfl]
    conv => lhs; unfold GX12_areAllSo_L39
    rw [if_neg c]
    split <;> rfl
theorem all_L {r t k : Int} {o : WF} {K : Int → MH → Option (Int × MH)} (r0 : 0 ≤ r) (r1 : r ≤ 6) : ∀ (m f : Nat) (x n B : Int) (T : Int → Int) (h : MH), m < f → n + m = 61 → 0 ≤ n → (x = 0 ∨ x = 1) → m_rd h 344 = T → Wf B T → B + m ≤ 100000 → WfN T → RwM h k o → m_rd h 334 21 = k → ∃ y h', GX12_areAllSo_L5 r t K f x n h = K y h' ∧ (y = 0 ∨ y = 1) ∧ (y = 1 ↔ x = 1 ∧ alQ o T n) ∧ Fr AlM h h' ∧ m_rd h' 344 = itS o m T ∧ (n ≤ t → t ≤ 60 → ∀ i, 0 ≤ i → i < T 3 → m_rd h' 353 (6 * r + i) = itS o ((t - n).toNat + 1) T (14 + i)) ∧ (t < n → m_rd h' 353 = m_rd h 353) ∧ ∀ j, ¬ (6 * r ≤ j ∧ j < 6 * r + 6) → m_rd h' 353 j = m_rd h 353 j := by
  intro m
  induction m with
  | zero =>
    intro f x n B T h hf hn n0 x01 sg H hB N Rw hk
    obtain ⟨q, rfl⟩ : ∃ q, f = q + 1 := ⟨f - 1, by omega⟩
    conv => enter [1, y, 1, h', 1, 1]; unfold GX12_areAllSo_L5
    rw [if_pos (by omega)]
    exact ⟨x, h, rfl, x01, ⟨fun z => ⟨z, fun m hm => by omega⟩, fun z => z.1⟩, Fr.rf, sg, fun z1 z2 => by omega, fun _ => rfl, fun _ _ => rfl⟩
  | succ m ih =>
    intro f x n B T h hf hn n0 x01 sg H hB N Rw hk
    obtain ⟨q, rfl⟩ : ∃ q, f = q + 1 := ⟨f - 1, by omega⟩
    have s3 := H.1.b.2.2.2
    have st := al_step (o := o) H N (a := n) (by omega)
    have pk : ∀ k, 45 ≤ k → paS o T k = T k := fun k z => pa_k H (by omega)
    have pk3 : paS o T 3 = T 3 := pa_k H (by omega)
    have N1 : WfN (paS o T) := N.sg pk3 (fun k z1 z2 => pk k (by omega))
    obtain ⟨h1, e1, F1, s1, T1⟩ := passes_ok sg H (by omega) Rw hk
    obtain ⟨z, ez, z01, zi⟩ := areNotesSo_ok (a := n) s1 N1 (by omega)
    have zi' : z = 1 ↔ nhd T (paS o T) n n := zi.trans (nhd_sg N s3.2 (fun k z1 z2 => pk k (by omega)) (fun _ _ _ => rfl))
    have rest : ∀ s : Int, (s = 0 ∨ s = 1) → (s = 1 ↔ x = 1 ∧ z = 1) → ∃ y h', GX12_areAllSo_L39 r t s n (fun h6 => GX12_areAllSo_L5 r t K q s (m_w32 (n + 1)) h6) FU 0 h1 = K y h' ∧ (y = 0 ∨ y = 1) ∧ (y = 1 ↔ x = 1 ∧ alQ o T n) ∧ Fr AlM h h' ∧ m_rd h' 344 = itS o (m + 1) T ∧ (n ≤ t → t ≤ 60 → ∀ i, 0 ≤ i → i < T 3 → m_rd h' 353 (6 * r + i) = itS o ((t - n).toNat + 1) T (14 + i)) ∧ (t < n → m_rd h' 353 = m_rd h 353) ∧ ∀ j, ¬ (6 * r ≤ j ∧ j < 6 * r + 6) → m_rd h' 353 j = m_rd h 353 j := by
      intro s s01 si
      obtain ⟨h2, e2, F2, q1, q2⟩ := al39 (r := r) (t := t) (n := n) (s := s) (K := fun h6 => GX12_areAllSo_L5 r t K q s (m_w32 (n + 1)) h6) s1 r0 r1 (by omega) (by omega)
      have s2 : m_rd h2 344 = paS o T := by
        rw [← s1]
        exact funext fun j => F2.rd (by omega)
      have F12 : Fr AlM h h2 := (F1.wk (fun a j z => Or.inl z)).tr (F2.wk (fun a j z => Or.inr z.1))
      obtain ⟨y, h', e', y01, yi, F', s', w1, w2, w3⟩ := ih q s (n + 1) (B + 1) (paS o T) h2 (by omega) (by omega) (by omega) s01 s2 (pa_wf H) (by omega) N1 (Rw.kr (AlM.kr F12)) (by rw [F12.rd (by unfold AlM StM; omega)]; exact hk)
      refine ⟨y, h', ?_, y01, ?_, F12.tr F', s', fun z1 z2 i i0 i1 => ?_, fun z1 => ?_, fun j zj => ?_⟩
      · rw [e2, w32_id (x := n + 1) (by omega) (by omega)]
        exact e'
      · rw [yi, si, st, zi']
        exact ⟨fun w => ⟨w.1.1, w.1.2, w.2⟩, fun w => ⟨⟨w.1, w.2.1⟩, w.2.2⟩⟩
      · by_cases c : n = t
        · have a1 := q1 c i i0 (by omega)
          rw [w2 (by omega), a1, show (t - n).toNat = 0 by omega]
          rfl
        · have a1 := w1 (by omega) z2 i i0 (by omega)
          rw [a1, show (t - n).toNat + 1 = (t - (n + 1)).toNat + 1 + 1 by omega]
          rfl
      · rw [w2 (by omega), q2 (by omega)]
        exact funext fun j => F1.rd (by unfold StM; omega)
      · rw [w3 j zj, F2.rd (by omega), F1.rd (by unfold StM; omega)]
    conv => enter [1, y, 1, h', 1, 1]; unfold GX12_areAllSo_L5
    rw [if_neg (by omega), e1, bd_some]
    simp only [jn]
    by_cases c : x = 0
    · rw [if_pos c]
      exact rest 0 (Or.inl rfl) ⟨fun z => absurd z (by decide), fun z => by omega⟩
    · rw [if_neg c, ez, bd_some]
      by_cases c2 : z = 0
      · rw [if_pos c2]
        exact rest 0 (Or.inl rfl) ⟨fun z => absurd z (by decide), fun z => by omega⟩
      · rw [if_neg c2]
        exact rest 1 (Or.inr rfl) ⟨fun _ => ⟨by omega, by omega⟩, fun _ => rfl⟩
theorem areAll_ok {r t k : Int} {o : WF} {T : Int → Int} {h : MH} (r0 : 0 ≤ r) (r1 : r ≤ 6) (sg : m_rd h 344 = T) (H : Wf 0 T) (N : WfN T) (Rw : RwM h k o) (hk : m_rd h 334 21 = k) : ∃ y h', GX12_areAllSo r t h = some (y, h') ∧ (y = 0 ∨ y = 1) ∧ (y = 1 ↔ alQ o T 0) ∧ Fr AlM h h' ∧ m_rd h' 344 = itS o 61 T ∧ (0 ≤ t → t ≤ 60 → ∀ i, 0 ≤ i → i < T 3 → m_rd h' 353 (6 * r + i) = itS o (t.toNat + 1) T (14 + i)) ∧ ∀ j, ¬ (6 * r ≤ j ∧ j < 6 * r + 6) → m_rd h' 353 j = m_rd h 353 j := by
  obtain ⟨y, h', e', y01, yi, F', s', w1, w2, w3⟩ := all_L (r := r) (t := t) (k := k) (o := o) (K := fun w1 h2 => gd [GT w1] (some (w1, h2))) r0 r1 61 FU 1 0 0 T h (by unfold FU; omega) (by omega) (by omega) (Or.inr rfl) sg H (by omega) N Rw hk
  refine ⟨y, h', ?_, y01, yi.trans ⟨fun z => z.2, fun z => ⟨rfl, z⟩⟩, F', s', fun z1 z2 i i0 i1 => ?_, w3⟩
  · unfold GX12_areAllSo
    rw [e', gd_cons (show GT y from y01), gd_nil]
  · have := w1 z1 z2 i i0 i1
    rw [Int.sub_zero] at this
    exact this
