/-! ALL THAT WAIT ARE TAKEN AT ONCE -/
def tst (G S : Int → Int) (v : Int) (b : Int × Int × (Int → Int)) : Int × Int × (Int → Int) := if 0 ≤ G v ∧ G v < S 3 then (if b.2.2 (G v) < S (82 + G v) then (b.1, b.2.1, ups b.2.2 (G v) (b.2.2 (G v) + 1)) else (b.1, b.2.1 + 1, ups b.2.2 (G v) 1)) else (b.1 + 1, b.2.1, b.2.2)
def lyI (S : Int → Int) : Int → Int := fun i => if 0 ≤ i ∧ i < 6 then S (14 + i) else 0
theorem lyI_e {S : Int → Int} {i : Int} (i0 : 0 ≤ i) (i1 : i < 6) : lyI S i = S (14 + i) := if_pos ⟨i0, i1⟩
def trF (G S : Int → Int) : Int × Int × (Int → Int) := fld (tst G S) (S 12).toNat 0 (0, 0, lyI S)
def tsI (v : Int) (b : Int × Int × (Int → Int)) : Prop := 0 ≤ b.1 ∧ b.1 ≤ v ∧ 0 ≤ b.2.1 ∧ b.2.1 ≤ v ∧ ∀ i, 0 ≤ i → i < 6 → 0 ≤ b.2.2 i ∧ b.2.2 i ≤ 20
theorem tst_I {G S : Int → Int} {v : Int} {b : Int × Int × (Int → Int)} (rm : ∀ i, 0 ≤ i → i < 6 → 1 ≤ S (82 + i) ∧ S (82 + i) ≤ 20) (I : tsI v b) : tsI (v + 1) (tst G S v b) := by
  obtain ⟨a1, a2, a3, a4, a5⟩ := I
  unfold tst
  by_cases c : 0 ≤ G v ∧ G v < S 3
  · rw [if_pos c]
    by_cases c2 : b.2.2 (G v) < S (82 + G v)
    · rw [if_pos c2]
      refine ⟨a1, by show b.1 ≤ v + 1; omega, a3, by show b.2.1 ≤ v + 1; omega, fun i i0 i1 => ?_⟩
      show 0 ≤ ups b.2.2 (G v) (b.2.2 (G v) + 1) i ∧ ups b.2.2 (G v) (b.2.2 (G v) + 1) i ≤ 20
      by_cases ci : i = G v
      · rw [up_eq ci, ← ci]
        rw [← ci] at c2
        have := a5 i i0 i1
        have := rm i i0 i1
        omega
      · rw [up_k ci]
        exact a5 i i0 i1
    · rw [if_neg c2]
      refine ⟨a1, by show b.1 ≤ v + 1; omega, by show 0 ≤ b.2.1 + 1; omega, by show b.2.1 + 1 ≤ v + 1; omega, fun i i0 i1 => ?_⟩
      show 0 ≤ ups b.2.2 (G v) 1 i ∧ ups b.2.2 (G v) 1 i ≤ 20
      by_cases ci : i = G v
      · rw [up_eq ci]
        omega
      · rw [up_k ci]
        exact a5 i i0 i1
  · rw [if_neg c]
    exact ⟨by show 0 ≤ b.1 + 1; omega, by show b.1 + 1 ≤ v + 1; omega, a3, by show b.2.1 ≤ v + 1; omega, a5⟩
theorem fld_cg {β : Type} {g g' : Int → β → β} : ∀ (m : Nat) (v : Int) (b : β), (∀ j x, v ≤ j → j < v + m → g j x = g' j x) → fld g m v b = fld g' m v b := by
  intro m
  induction m with
  | zero =>
    intro v b _
    rfl
  | succ m ih =>
    intro v b h
    show fld g m (v + 1) (g v b) = fld g' m (v + 1) (g' v b)
    rw [h v b (by omega) (by omega)]
    exact ih (v + 1) _ (fun j x j0 j1 => h j x (by omega) (by omega))
theorem tr_cg {G G' S : Int → Int} (n : 0 ≤ S 12) (e : ∀ v, 0 ≤ v → v < S 12 → G v = G' v) : trF G S = trF G' S := by
  unfold trF
  refine fld_cg _ _ _ (fun j x j0 j1 => ?_)
  unfold tst
  rw [e j j0 (by omega)]
theorem rooms {S : Int → Int} (F : WfF S) (f1 : S 0 = 1) : ∀ i, 0 ≤ i → i < 6 → 1 ≤ S (82 + i) ∧ S (82 + i) ≤ 20 := by
  rcases F with q | q
  · exact q.2.2.2.2.2.2.2
  · omega
/-! the class -/
theorem Dr.cg2 {g g' : MH} {S : Int → Int} {P : Int → Int → Prop} (D : Dr g S) (F : Fr P g g') (n : ∀ a j, P a j → 323 ≤ a ∧ a < 334) : Dr g' S := by
  obtain ⟨a1, a2, ⟨b1, b2, b3, b4, b5⟩, a4, a5, a6⟩ := D
  have no : ∀ a j, a < 323 ∨ 334 ≤ a → m_rd g' a j = m_rd g a j := fun a j z => F.rd (fun y => by have := n a j y; omega)
  refine ⟨a1, a2, ⟨?_, ?_, b3.fr F, b4.fr F, fun c c0 c1 => ?_⟩, a4.cg (fun a j z1 z2 => no a j (by omega)), a5.cg (fun a j z1 z2 => no a j (by omega)), ?_⟩
  · rw [no _ _ (by omega)]
    exact b1
  · rw [no _ _ (by omega)]
    exact b2
  · rw [no _ _ (by omega)]
    exact b5 c c0 c1
  · rw [← a6]
    exact funext fun j => no _ _ (by omega)
def TgR (h : MH) (b : Int × Int × (Int → Int)) : Prop := m_rd h 323 12 = b.1 ∧ m_rd h 323 13 = b.2.1 ∧ ∀ i, 0 ≤ i → i < 6 → m_rd h 325 i = b.2.2 i
def FtG (a j : Int) : Prop := (a = 323 ∧ (j = 12 ∨ j = 13)) ∨ a = 325
theorem tgC_L {G S : Int → Int} {K : MH → Option MH} (F0 : WfF S) (f1 : S 0 = 1) (n12 : S 12 ≤ 20) : ∀ (m f : Nat) (v : Int) (b : Int × Int × (Int → Int)) (h : MH), m < f → v + m = S 12 → 0 ≤ v → ShR h 21 S → m_rd h 32 1 = S 12 → (∀ i, 0 ≤ i → i < S 12 → m_rd h 324 i = G i) → TgR h b → tsI v b → ∃ h', GX0_tryGoals_L27 21 32 K f v h = K h' ∧ Fr FtG h h' ∧ TgR h' (fld (tst G S) m v b) := by
  have fw := frw F0 f1
  have rm := rooms F0 f1
  intro m
  induction m with
  | zero =>
    intro f v b h hf hv v0 R hw hg T I
    obtain ⟨q, rfl⟩ : ∃ q, f = q + 1 := ⟨f - 1, by omega⟩
    conv => enter [1, h', 1, 1]; unfold GX0_tryGoals_L27
    rw [hw, if_neg (by omega)]
    exact ⟨h, rfl, Fr.rf, T⟩
  | succ m ih =>
    intro f v b h hf hv v0 R hw hg T I
    obtain ⟨q, rfl⟩ : ∃ q, f = q + 1 := ⟨f - 1, by omega⟩
    obtain ⟨i1, i2, i3, i4, i5⟩ := id I
    have I' := tst_I (G := G) rm I
    conv => enter [1, h', 1, 1]; unfold GX0_tryGoals_L27
    have nx : ∀ h2, Fr FtG h h2 → TgR h2 (tst G S v b) → ∃ h', GX0_tryGoals_L27 21 32 K q (v + 1) h2 = K h' ∧ Fr FtG h h' ∧ TgR h' (fld (tst G S) (m + 1) v b) := by
      intro h2 F2 T2
      obtain ⟨h', e', F', T'⟩ := ih q (v + 1) (tst G S v b) h2 (by omega) (by omega) (by omega) (R.cg (fun a j z1 z2 => F2.rd (by unfold FtG; omega))) (by rw [F2.rd (by unfold FtG; omega)]; exact hw) (fun i j0 j1 => by rw [F2.rd (by unfold FtG; omega)]; exact hg i j0 j1) T2 I'
      exact ⟨h', e', F2.tr F', T'⟩
    rw [hw, if_pos (by omega), gd_ib v0 (by omega), gd_nil, hasHole_ok R, bd_some, hg v v0 (by omega), w32_id (x := v + 1) (by omega) (by omega), T.1, T.2.1, w32_id (x := b.1 + 1) (by omega) (by omega), w32_id (x := b.2.1 + 1) (by omega) (by omega)]
    by_cases c : 0 ≤ G v ∧ G v < S 3
    · have gi := i5 (G v) c.1 (by omega)
      rw [if_neg (by rw [t01]; exact fun z => z c), gd_ib (by omega) (by omega), gd_nil, gd_ib (by omega) (by omega), gd_nil]
      simp only [jn]
      rw [T.2.2 (G v) c.1 (by omega), show (21 : Int) + 2 = 23 from rfl, show m_rd h 23 (G v) = S (82 + G v) from R.2.2.2.2.2 (G v) c.1 (by omega)]
      by_cases c2 : b.2.2 (G v) < S (82 + G v)
      · rw [if_pos c2, gd_ib (by omega) (by omega), gd_nil, w32_id (by omega) (by omega)]
        refine nx _ (Fr.wr Fr.rf (Or.inr rfl)) ?_
        unfold tst
        rw [if_pos c, if_pos c2]
        refine ⟨?_, ?_, fun i j0 j1 => ?_⟩
        · simp (disch := omega) only [w32_id, rd_eq, rd_ne, cp_in, cp_out, lc_lt, lc_gt, lc_eq]
          exact T.1
        · simp (disch := omega) only [w32_id, rd_eq, rd_ne, cp_in, cp_out, lc_lt, lc_gt, lc_eq]
          exact T.2.1
        · show _ = ups b.2.2 (G v) (b.2.2 (G v) + 1) i
          by_cases ci : i = G v
          · rw [rd_eq rfl ci, up_eq ci]
          · rw [rd_ne (Or.inr ci), up_k ci]
            exact T.2.2 i j0 j1
      · rw [if_neg c2, gd_ib (by omega) (by omega), gd_nil, gd_ib (by omega) (by omega), gd_nil, rd_eq rfl rfl, show m_w32 (0 + 1) = 1 from rfl]
        refine nx _ (((Fr.wr Fr.rf (Or.inl ⟨rfl, Or.inr rfl⟩)).wr (Or.inr rfl)).wr (Or.inr rfl)) ?_
        unfold tst
        rw [if_pos c, if_neg c2]
        refine ⟨?_, ?_, fun i j0 j1 => ?_⟩
        · simp (disch := omega) only [w32_id, rd_eq, rd_ne, cp_in, cp_out, lc_lt, lc_gt, lc_eq]
          exact T.1
        · simp (disch := omega) only [w32_id, rd_eq, rd_ne, cp_in, cp_out, lc_lt, lc_gt, lc_eq]
        · show _ = ups b.2.2 (G v) 1 i
          by_cases ci : i = G v
          · rw [rd_eq rfl ci, up_eq ci]
          · rw [rd_ne (Or.inr ci), rd_ne (Or.inr ci), rd_ne (by omega), up_k ci]
            exact T.2.2 i j0 j1
    · rw [if_pos (by rw [t01]; exact c)]
      refine nx _ (Fr.wr Fr.rf (Or.inl ⟨rfl, Or.inl rfl⟩)) ?_
      unfold tst
      rw [if_neg c]
      refine ⟨?_, ?_, fun i j0 j1 => ?_⟩
      · simp (disch := omega) only [w32_id, rd_eq, rd_ne, cp_in, cp_out, lc_lt, lc_gt, lc_eq]
      · simp (disch := omega) only [w32_id, rd_eq, rd_ne, cp_in, cp_out, lc_lt, lc_gt, lc_eq]
        exact T.2.1
      · rw [rd_ne (by omega)]
        exact T.2.2 i j0 j1
theorem tryGoals_ok {G S : Int → Int} {h : MH} {B : Int} (H : Wf B S) (f1 : S 0 = 1) (R : ShR h 21 S) (W : WkR h 32 S) (hg : ∀ i, 0 ≤ i → i < S 12 → m_rd h 324 i = G i) : ∃ h', GX0_tryGoals 21 32 h = some h' ∧ Fr FtG h h' ∧ m_rd h' 323 12 = (trF G S).1 ∧ m_rd h' 323 13 = (trF G S).2.1 := by
  obtain ⟨F, E, W0, _⟩ := id H
  have n12 := W0.1
  unfold GX0_tryGoals
  have F0 : Fr FtG h (m_cpy (m_wr (m_wr h 323 12 0) 323 13 0) (32 + 6) 0 325 0 6) := ((Fr.rf.wr (Or.inl ⟨rfl, Or.inl rfl⟩)).wr (Or.inl ⟨rfl, Or.inr rfl⟩)).cp (fun k _ _ => Or.inr rfl)
  obtain ⟨h', e', F', T'⟩ := tgC_L (G := G) (K := fun h1 => some h1) F f1 n12.2 (S 12).toNat FU 0 (0, 0, lyI S) (m_cpy (m_wr (m_wr h 323 12 0) 323 13 0) (32 + 6) 0 325 0 6) (by unfold FU; omega) (by omega) (by omega) (R.cg (fun a j z1 z2 => F0.rd (by unfold FtG; omega))) (by rw [F0.rd (by unfold FtG; omega)]; exact W.2.2.1) (fun i i0 i1 => by rw [F0.rd (by unfold FtG; omega)]; exact hg i i0 i1) ⟨by simp (disch := omega) only [w32_id, rd_eq, rd_ne, cp_in, cp_out, lc_lt, lc_gt, lc_eq], by simp (disch := omega) only [w32_id, rd_eq, rd_ne, cp_in, cp_out, lc_lt, lc_gt, lc_eq], fun i i0 i1 => by
    rw [cp_in rfl (by omega) (by omega), rd_ne (by omega), rd_ne (by omega), show (0 : Int) + (i - 0) = i by omega]
    show m_rd h 38 i = lyI S i
    rw [lyI_e i0 i1]
    exact W.2.2.2.2.1 i i0 i1⟩ ⟨by show (0 : Int) ≤ 0; omega, by show (0 : Int) ≤ 0; omega, by show (0 : Int) ≤ 0; omega, by show (0 : Int) ≤ 0; omega, fun i i0 i1 => by
    have := W0.2.1 i i0 i1
    show 0 ≤ lyI S i ∧ lyI S i ≤ 20
    rw [lyI_e i0 i1]
    exact ⟨this.1, this.2.1⟩⟩
  exact ⟨h', e', F0.tr F', T'.1, T'.2.1⟩
/-! the reference -/
theorem sorts_ok2 {c : Int} {S : Int → Int} {h : MH} (sg : m_rd h 344 = S) (F : WfF S) (E : WfE S) (W : WfW S) (t1 : 0 ≤ S 11) (t3 : S 11 ≤ 1000000) (c0 : 0 ≤ c) (c1 : c ≤ 100000) : ∃ h', GX12_sorts c h = some h' ∧ Fr (fun a j => (a = 344 ∧ 10 ≤ j ∧ j < 82) ∨ (a = 334 ∧ j = 23)) h h' ∧ m_rd h' 344 = soS c S ∧ m_rd h' 334 23 = soT c S := by
  have fb := F.b
  have hb := hol_b (c := c) E
  have s2 : m_rd (m_wr h 334 23 (-1)) 344 = S := by rw [rd_fo (by decide), sg]
  unfold GX12_sorts soS soT
  rw [holeOf_ok (by rw [sg]; exact F) (by rw [sg]; exact E) c0 c1, bd_some, sg]
  by_cases q : hol S c < 0
  · rw [if_pos q, if_pos q, if_pos q, s2, w32_id (by omega) (by omega)]
    refine ⟨_, rfl, (Fr.rf.wr (by omega)).wr (by omega), ?_, ?_⟩
    · rw [rd_fn, s2]
    · simp (disch := omega) only [w32_id, rd_eq, rd_ne, cp_in, cp_out, lc_lt, lc_gt, lc_eq]
  · have hh := hb.2.2 (by omega)
    have wl := W.2.1 (hol S c) hh.1 (by omega)
    rw [if_neg q, if_neg q, if_neg q, w32_id (x := 14 + hol S c) (by omega) (by omega), w32_id (x := 82 + hol S c) (by omega) (by omega), gd_ib (by omega) (by omega), gd_nil, gd_ib (by omega) (by omega), gd_nil]
    simp only [jn]
    rw [s2]
    by_cases q2 : S (14 + hol S c) < S (82 + hol S c)
    · rw [if_pos q2, if_pos q2, if_pos q2, gd_ib (by omega) (by omega), gd_nil, w32_id (by omega) (by omega)]
      refine ⟨_, rfl, (Fr.rf.wr (by omega)).wr (by omega), ?_, ?_⟩
      · rw [rd_fn, s2]
      · simp (disch := omega) only [w32_id, rd_eq, rd_ne, cp_in, cp_out, lc_lt, lc_gt, lc_eq]
    · obtain ⟨g, e, Fg, sgg⟩ := ties_ok (t := hol S c) (h := m_wr h 334 23 (-1)) (by rw [s2]; exact W) hh.1 (by omega)
      rw [s2] at sgg
      have s3 : m_rd (m_wr g 334 23 (hol S c)) 344 = tiS (hol S c) S := by rw [rd_fo (by decide), sgg]
      rw [if_neg q2, if_neg q2, if_neg q2, e, bv_some, gd_ib (by omega) (by omega), gd_nil, s3, ti_at, if_pos rfl]
      refine ⟨_, rfl, ((((Fr.wr Fr.rf (by omega)).tr (Fg.wk (fun a j z => by omega))).wr (by omega)).wr (by omega)), ?_, ?_⟩
      · rw [rd_fn, s3]
        rfl
      · simp (disch := omega) only [w32_id, rd_eq, rd_ne, cp_in, cp_out, lc_lt, lc_gt, lc_eq]
theorem so_w {c : Int} {Y : Int → Int} (F : WfF Y) (E : WfE Y) (W : WfW Y) (f1 : Y 0 = 1) (t : 0 ≤ Y 11) : WfF (soS c Y) ∧ WfE (soS c Y) ∧ WfW (soS c Y) := by
  have fw := frw F f1
  have H : Wf (Y 11) (ups Y 10 (Y 11)) := by
    refine ⟨?_, E.sg (fun k z => up_k (by omega)), W.sg (fun k z => up_k (by omega)), ?_, ?_, ?_⟩
    · unfold WfF
      rw [up_k (by omega), up_k (by omega), up_k (by omega), up_k (by omega)]
      rcases F with ⟨a1, a2, a3, a4, a5, a6, a7, a8⟩ | q
      · refine Or.inl ⟨a1, a2, a3, a4, a5, a6, a7, fun i i0 i1 => ?_⟩
        rw [up_k (by omega)]
        exact a8 i i0 i1
      · omega
    · rw [up_k (by omega)]
      exact t
    · rw [up_k (by omega), up_eq rfl]
      exact Int.le_refl _
    · rw [up_eq rfl]
      exact Int.le_refl _
  have q := so_wf (c := c) H (by rw [up_k (by omega)]; exact f1)
  rw [(so_comm (c := c) (v := Y 11) E).1] at q
  have k' : ∀ k, k ≠ 10 → soS c Y k = ups (ups (soS c Y) 10 (Y 11)) 10 (ups Y 10 (Y 11) 10 + 1) k := fun k z => by rw [up_k z, up_k z]
  refine ⟨?_, q.2.1.sg (fun k z => k' k (by omega)), q.2.2.1.sg (fun k z => k' k (by omega))⟩
  have sk : ∀ k, k ≠ 11 ∧ (k < 14 ∨ 26 ≤ k) → soS c Y k = Y k := fun k z => so_k E (by omega) z
  unfold WfF
  rw [sk 0 (by omega), sk 1 (by omega), sk 2 (by omega), sk 3 (by omega)]
  rcases F with ⟨a1, a2, a3, a4, a5, a6, a7, a8⟩ | q
  · refine Or.inl ⟨a1, a2, a3, a4, a5, a6, a7, fun i i0 i1 => ?_⟩
    rw [sk _ (by omega)]
    exact a8 i i0 i1
  · omega
/-- a row while all are sorted: X as it began -/
def SaR (X : Int → Int) (b : Int × Int × (Int → Int)) (Y : Int → Int) : Prop := (∀ k, k ≠ 11 ∧ (k < 14 ∨ 26 ≤ k) → Y k = X k) ∧ Y 11 = X 11 + b.1 ∧ ∀ i, 0 ≤ i → i < 6 → Y (14 + i) = b.2.2 i
theorem sa_step {X Y : Int → Int} {v c : Int} {b : Int × Int × (Int → Int)} (R : SaR X b Y) (E : WfE X) (s3 : X 3 ≤ 6) : SaR X (tst (fun _ => hol X c) X v b) (soS c Y) ∧ (soT c Y < 0 ↔ (tst (fun _ => hol X c) X v b).2.1 = b.2.1) ∧ (0 ≤ soT c Y ↔ (tst (fun _ => hol X c) X v b).2.1 = b.2.1 + 1) := by
  obtain ⟨r1, r2, r3⟩ := R
  have EY : WfE Y := E.sg (fun k z => r1 k (by omega))
  have hy : hol Y c = hol X c := hol_sg E (fun k z => r1 k (by omega))
  have hb := hol_b (c := c) E
  have y3 : Y 3 = X 3 := r1 3 (by omega)
  unfold soS soT tst
  dsimp only
  rw [hy]
  by_cases q : hol X c < 0
  · rw [if_pos q, if_pos q, if_neg (by omega)]
    refine ⟨⟨fun k z => ?_, ?_, fun i i0 i1 => ?_⟩, ?_, ?_⟩
    · rw [up_k z.1]
      exact r1 k z
    · rw [up_eq rfl, r2]
      show X 11 + b.1 + 1 = X 11 + (b.1 + 1)
      omega
    · rw [up_k (by omega)]
      exact r3 i i0 i1
    · exact ⟨fun _ => rfl, fun _ => by decide⟩
    · exact ⟨fun z => absurd z (by decide), fun z => by have z' : b.2.1 = b.2.1 + 1 := z; omega⟩
  · have hh := hb.2.2 (by omega)
    rw [if_neg q, if_neg q, if_pos hh, r3 _ hh.1 (by omega), r1 (82 + hol X c) (by omega)]
    by_cases q2 : b.2.2 (hol X c) < X (82 + hol X c)
    · rw [if_pos q2, if_pos q2, if_pos q2]
      refine ⟨⟨fun k z => ?_, ?_, fun i i0 i1 => ?_⟩, ?_, ?_⟩
      · rw [up_k (by omega)]
        exact r1 k z
      · rw [up_k (by omega)]
        exact r2
      · show _ = ups b.2.2 (hol X c) (b.2.2 (hol X c) + 1) i
        by_cases ci : i = hol X c
        · rw [up_eq (by omega), up_eq ci]
        · rw [up_k (by omega), up_k ci]
          exact r3 i i0 i1
      · exact ⟨fun _ => rfl, fun _ => by decide⟩
      · exact ⟨fun z => absurd z (by decide), fun z => by have z' : b.2.1 = b.2.1 + 1 := z; omega⟩
    · rw [if_neg q2, if_neg q2, if_neg q2]
      refine ⟨⟨fun k z => ?_, ?_, fun i i0 i1 => ?_⟩, ?_, ?_⟩
      · rw [up_k (by omega), ti_at, if_neg (by omega), if_neg (by omega)]
        exact r1 k z
      · rw [up_k (by omega), ti_at, if_neg (by omega), if_neg (by omega)]
        exact r2
      · show _ = ups b.2.2 (hol X c) 1 i
        by_cases ci : i = hol X c
        · rw [up_eq (by omega), up_eq ci]
        · rw [up_k (by omega), up_k ci, ti_at, if_neg (by omega), if_neg (by omega)]
          exact r3 i i0 i1
      · exact ⟨fun z => by omega, fun z => by have z' : b.2.1 + 1 = b.2.1 := z; omega⟩
      · exact ⟨fun _ => rfl, fun _ => hh.1⟩
def FsA (a j : Int) : Prop := (a = 344 ∧ 10 ≤ j ∧ j < 82) ∨ (a = 334 ∧ (j = 23 ∨ j = 31 ∨ j = 32))
theorem saM_L {X : Int → Int} {K : MH → Option MH} (F : WfF X) (E : WfE X) (W : WfW X) (f1 : X 0 = 1) (t0 : 0 ≤ X 11) (t1 : X 11 ≤ 5000) : ∀ (m f : Nat) (v : Int) (b : Int × Int × (Int → Int)) (Y : Int → Int) (h : MH), m < f → v + m = X 12 → 0 ≤ v → m_rd h 344 = Y → SaR X b Y → WfF Y → WfE Y → WfW Y → m_rd h 334 32 = b.2.1 → tsI v b → ∃ h', GX12_sortsAll_L18 K f v h = K h' ∧ Fr (fun a j => (a = 344 ∧ 10 ≤ j ∧ j < 82) ∨ (a = 334 ∧ (j = 23 ∨ j = 32))) h h' ∧ m_rd h' 334 32 = (fld (tst (fun v => hol X (X (26 + v))) X) m v b).2.1 ∧ m_rd h' 344 11 = X 11 + (fld (tst (fun v => hol X (X (26 + v))) X) m v b).1 ∧ ∀ k, k ≠ 11 ∧ (k < 14 ∨ 26 ≤ k) → m_rd h' 344 k = X k := by
  have fw := frw F f1
  have n12 := W.1
  have cb := cod_b F
  intro m
  induction m with
  | zero =>
    intro f v b Y h hf hv v0 sg R FY EY WY ht I
    obtain ⟨q, rfl⟩ : ∃ q, f = q + 1 := ⟨f - 1, by omega⟩
    have y12 : Y 12 = X 12 := R.1 12 (by omega)
    conv => enter [1, h', 1, 1]; unfold GX12_sortsAll_L18
    rw [sg, if_neg (by omega)]
    exact ⟨h, rfl, Fr.rf, ht, by rw [sg]; exact R.2.1, fun k z => by rw [sg]; exact R.1 k z⟩
  | succ m ih =>
    intro f v b Y h hf hv v0 sg R FY EY WY ht I
    obtain ⟨q, rfl⟩ : ∃ q, f = q + 1 := ⟨f - 1, by omega⟩
    have y12 : Y 12 = X 12 := R.1 12 (by omega)
    have y0 : Y 0 = X 0 := R.1 0 (by omega)
    have yc : Y (26 + v) = X (26 + v) := R.1 (26 + v) (by omega)
    have y11 := R.2.1
    obtain ⟨i1, i2, i3, i4, i5⟩ := id I
    obtain ⟨c0, c1⟩ := W.2.2 v v0 (by omega)
    obtain ⟨S1, S2, S3⟩ := sa_step (v := v) (c := X (26 + v)) R E (by omega)
    have tse : tst (fun _ => hol X (X (26 + v))) X v b = tst (fun v => hol X (X (26 + v))) X v b := rfl
    rw [tse] at S1 S2 S3
    obtain ⟨h1, e1, F1, s1, T1⟩ := sorts_ok2 (c := X (26 + v)) sg FY EY WY (by omega) (by omega) c0 (by omega)
    obtain ⟨w1, w2, w3⟩ := so_w (c := X (26 + v)) FY EY WY (by omega) (by omega)
    conv => enter [1, h', 1, 1]; unfold GX12_sortsAll_L18
    have h32 : m_rd h1 334 32 = b.2.1 := by
      rw [F1.rd (by omega)]
      exact ht
    rw [sg, if_pos (by omega), w32_id (x := 26 + v) (by omega) (by omega), gd_ib (by omega) (by omega), gd_nil, yc, e1, bv_some, T1, h32, w32_id (x := v + 1) (by omega) (by omega), w32_id (x := b.2.1 + 0) (by omega) (by omega), w32_id (x := b.2.1 + 1) (by omega) (by omega), Int.add_zero]
    have nx : ∀ y, y = (tst (fun v => hol X (X (26 + v))) X v b).2.1 → ∃ h', GX12_sortsAll_L18 K q (v + 1) (m_wr h1 334 32 y) = K h' ∧ Fr (fun a j => (a = 344 ∧ 10 ≤ j ∧ j < 82) ∨ (a = 334 ∧ (j = 23 ∨ j = 32))) h h' ∧ m_rd h' 334 32 = (fld (tst (fun v => hol X (X (26 + v))) X) (m + 1) v b).2.1 ∧ m_rd h' 344 11 = X 11 + (fld (tst (fun v => hol X (X (26 + v))) X) (m + 1) v b).1 ∧ ∀ k, k ≠ 11 ∧ (k < 14 ∨ 26 ≤ k) → m_rd h' 344 k = X k := by
      intro y hy
      obtain ⟨h', e', F', a1, a2, a3⟩ := ih q (v + 1) (tst (fun v => hol X (X (26 + v))) X v b) (soS (X (26 + v)) Y) (m_wr h1 334 32 y) (by omega) (by omega) (by omega) (by rw [rd_fo (by decide)]; exact s1) S1 w1 w2 w3 (by rw [rd_eq rfl rfl]; exact hy) (tst_I (rooms F f1) I)
      exact ⟨h', e', ((F1.wk (fun a j z => by omega)).wr (by omega)).tr F', a1, a2, a3⟩
    by_cases c : soT (X (26 + v)) Y < 0
    · rw [if_pos c]
      exact nx _ (S2.1 c).symm
    · rw [if_neg c]
      exact nx _ (S3.1 (by omega)).symm
theorem sortsAll_ok {S X : Int → Int} {h : MH} (sg : m_rd h 344 = X) (ag : ∀ k, (k < 46 ∧ k ≠ 13) ∨ 82 ≤ k → X k = S k) (F : WfF X) (E : WfE X) (W : WfW X) (f1 : X 0 = 1) (t0 : 0 ≤ X 11) (t1 : X 11 ≤ 5000) (kp : ∀ k, 0 ≤ k → k < 72 → m_rd h 350 k = S (10 + k)) : ∃ h', GX12_sortsAll h = some h' ∧ Fr FsA h h' ∧ m_rd h' 344 = S ∧ m_rd h' 334 31 = (trF (fun v => hol X (S (26 + v))) S).1 ∧ m_rd h' 334 32 = (trF (fun v => hol X (S (26 + v))) S).2.1 := by
  have n12 := W.1
  have fw := frw F f1
  have rr := rooms F f1
  unfold GX12_sortsAll
  have h11 : m_rd (m_wr h 334 32 0) 344 11 = X 11 := by rw [rd_ne (by omega), sg]
  rw [h11]
  obtain ⟨h1, e1, F1, a1, a2, a3⟩ := saM_L (X := X) (K := fun h1 => bv (GX12_laysBack (m_wr h1 334 31 (m_w32 ((m_rd h1 344 11) - (m_rd h1 334 31))))) (fun h2 => some h2)) F E W f1 t0 t1 (X 12).toNat FU 0 (0, 0, lyI X) X (m_wr (m_wr h 334 32 0) 334 31 (X 11)) (by unfold FU; omega) (by omega) (by omega) (by rw [rd_fo (by decide), rd_fo (by decide)]; exact sg) ⟨fun _ _ => rfl, by show X 11 = X 11 + 0; omega, fun i i0 i1 => (lyI_e i0 i1).symm⟩ F E W (by simp (disch := omega) only [w32_id, rd_eq, rd_ne, cp_in, cp_out, lc_lt, lc_gt, lc_eq]) ⟨by show (0 : Int) ≤ 0; omega, by show (0 : Int) ≤ 0; omega, by show (0 : Int) ≤ 0; omega, by show (0 : Int) ≤ 0; omega, fun i i0 i1 => by
    have := W.2.1 i i0 i1
    show 0 ≤ lyI X i ∧ lyI X i ≤ 20
    rw [lyI_e i0 i1]
    exact ⟨this.1, this.2.1⟩⟩
  have lyE : lyI X = lyI S := by
    funext i
    by_cases c : 0 ≤ i ∧ i < 6
    · rw [lyI_e c.1 c.2, lyI_e c.1 c.2, ag _ (by omega)]
    · unfold lyI
      rw [if_neg c, if_neg c]
  have teq : fld (tst (fun v => hol X (X (26 + v))) X) (X 12).toNat 0 (0, 0, lyI X) = trF (fun v => hol X (S (26 + v))) S := by
    unfold trF
    rw [lyE, ag 12 (by omega)]
    refine fld_cg _ _ _ (fun j x j0 j1 => ?_)
    rw [← ag 12 (by omega)] at j1
    unfold tst
    dsimp only
    have e26 : X (26 + j) = S (26 + j) := ag (26 + j) (by omega)
    have e3 : X 3 = S 3 := ag 3 (by omega)
    simp only [e26, e3]
    by_cases c : 0 ≤ hol X (S (26 + j)) ∧ hol X (S (26 + j)) < S 3
    · rw [if_pos c, if_pos c, ag (82 + hol X (S (26 + j))) (by omega)]
    · rw [if_neg c, if_neg c]
  rw [teq] at a1 a2
  have h31 : m_rd h1 334 31 = X 11 := by
    rw [F1.rd (by omega), rd_eq rfl rfl]
  have lb : 0 ≤ (trF (fun v => hol X (S (26 + v))) S).1 ∧ (trF (fun v => hol X (S (26 + v))) S).1 ≤ 20 := by
    have gen : ∀ (m : Nat) (v : Int) (b : Int × Int × (Int → Int)), tsI v b → tsI (v + m) (fld (tst (fun v => hol X (S (26 + v))) S) m v b) := by
      intro m
      induction m with
      | zero =>
        intro v b hb
        rw [show v + ((0 : Nat) : Int) = v by omega]
        exact hb
      | succ m ih =>
        intro v b hb
        rw [show v + ((m + 1 : Nat) : Int) = v + 1 + m by omega]
        exact ih (v + 1) _ (tst_I (fun i i0 i1 => by rw [← ag (82 + i) (by omega)]; exact rr i i0 i1) hb)
    have g := gen (S 12).toNat 0 (0, 0, lyI S) ⟨by show (0 : Int) ≤ 0; omega, by show (0 : Int) ≤ 0; omega, by show (0 : Int) ≤ 0; omega, by show (0 : Int) ≤ 0; omega, fun i i0 i1 => by
      have := W.2.1 i i0 i1
      show 0 ≤ lyI S i ∧ lyI S i ≤ 20
      rw [← lyE, lyI_e i0 i1]
      exact ⟨this.1, this.2.1⟩⟩
    have e12 := ag 12 (by omega)
    have g1 : 0 ≤ (trF (fun v => hol X (S (26 + v))) S).1 := g.1
    have g2 : (trF (fun v => hol X (S (26 + v))) S).1 ≤ 0 + ((S 12).toNat : Int) := g.2.1
    omega
  rw [e1, h31, a2, show X 11 + (trF (fun v => hol X (S (26 + v))) S).1 - X 11 = (trF (fun v => hol X (S (26 + v))) S).1 by omega, w32_id (by omega) (by omega)]
  obtain ⟨h2, e2, F2, s2⟩ := laysBack_ok (h := m_wr h1 334 31 (trF (fun v => hol X (S (26 + v))) S).1) (S := S) (fun k k0 k1 => by rw [rd_ne (by omega), F1.rd (by omega), rd_ne (by omega), rd_ne (by omega)]; exact kp k k0 k1) (fun j z => by rw [rd_ne (by omega), a3 j (by omega)]; exact ag j (by omega))
  rw [e2, bv_some]
  refine ⟨h2, rfl, ?_, s2, ?_, ?_⟩
  · exact ((((Fr.rf.wr (by unfold FsA; omega)).wr (by unfold FsA; omega)).tr (F1.wk (fun a j z => by unfold FsA; omega))).wr (by unfold FsA; omega)).tr (F2.wk (fun a j z => by unfold FsA; omega))
  · rw [F2.rd (by omega), rd_eq rfl rfl]
  · rw [F2.rd (by omega), rd_ne (by omega)]
    exact a1
