/-! A TURN of the reference -/
def ScM (a j : Int) : Prop := a = 343 ∨ a = 342 ∨ (a = 334 ∧ j = 18)
def StM (a j : Int) : Prop := a = 343 ∨ a = 342 ∨ (a = 334 ∧ (j = 18 ∨ j = 23)) ∨ (a = 344 ∧ 10 ≤ j ∧ j < 82)
theorem ScM.kr {h g : MH} (F : Fr ScM h g) : KeepR h g := F.kr (fun a j z => by unfold RdR; unfold ScM at z; omega)
theorem StM.kr {h g : MH} (F : Fr StM h g) : KeepR h g := F.kr (fun a j z => by unfold RdR; unfold StM at z; omega)
theorem StC.kr {h g : MH} (F : Fr StC h g) : KeepR h g := F.kr (fun a j z => by unfold RdR; unfold StC at z; omega)
theorem sum_fin {k p : Int} {W : (Int → Int) → Int} {S : Int → Int} {h0 h H : MH} (Rw : RwM h0 k (some W)) (K : KeepR h0 h) (hk : m_rd h 334 21 = k) (F : Fr ScM h H) (ws : ∀ i, 0 ≤ i → i < 11 → m_rd H 343 i = wrd S p i) : Wi (bd (GX12_summedBy (m_rd H 334 21) H) (fun x18 h17 => some (x18, h17))) (fun v h' => v = W (wrd S p) ∧ Fr ScM h h') := by
  rw [F.rd (by unfold ScM; omega), hk]
  obtain ⟨g', e, F'⟩ := Rw.2.2 H (K.tr (ScM.kr F))
  refine wi_be e (wi_ret ⟨Rw.2.1 _ _ ws, F.tr (F'.wk (fun a j z => by unfold ScM; omega))⟩)
theorem over_bg' {h : MH} {S : Int → Int} (sg : m_rd h 344 = S) (F : WfF S) (W : WfW S) : GX12_sumOver 20 h = some (sm6 S 20, h) := by
  subst sg
  exact over_bg F W
theorem sumOfM_ok {B k p : Int} {W : (Int → Int) → Int} {S : Int → Int} {h0 h : MH} (sg : m_rd h 344 = S) (H : Wf B S) (Rw : RwM h0 k (some W)) (K : KeepR h0 h) (hk : m_rd h 334 21 = k) (p0 : 0 ≤ p) (p1 : p < S 12) : Wi (GX12_sumOf p h) (fun v h' => v = W (wrd S p) ∧ Fr ScM h h') := by
  obtain ⟨F, E, W0, t1, t2, t3⟩ := id H
  have n12 := W0.1
  have f1 := fr12 H (by omega)
  have fw := frw F f1
  have n13 := E.1
  obtain ⟨c0, c1⟩ := W0.2.2 p p0 p1
  have cb := cod_b F
  have eb := ent_b (c := S (26 + p)) E
  have hb := hol_b (c := S (26 + p)) E
  unfold GX12_sumOf
  rw [w32_id (x := 26 + p) (by omega) (by omega), sg]
  refine wi_ib (by omega) (by omega) (wi_gn ?_)
  refine wi_be (entryOf_ok (by rw [sg]; exact F) (by rw [sg]; exact E) c0 (by omega)) ?_
  rw [sg]
  refine wi_be (holeOf_ok (by rw [sg]; exact F) (by rw [sg]; exact E) c0 (by omega)) ?_
  rw [sg]
  have g1 : m_rd (m_wr (m_wr h 343 0 p) 343 1 (S (26 + p))) 344 = S := by rw [rd_fo (by decide), rd_fo (by decide), sg]
  have g2 : ∀ x, m_rd (m_wr (m_wr (m_wr h 343 0 p) 343 1 (S (26 + p))) 343 2 x) 344 = S := fun x => by rw [rd_fo (by decide), g1]
  refine wi_be (prefixOf_ok (by rw [g1]; exact F) (by rw [g1]; exact f1) c0 (by omega) (by omega) (by rw [g1]; omega)) ?_
  rw [g1, g2, Int.tmod_eq_emod_of_nonneg c0]
  refine wi_gc (by omega) (wi_gn (wi_hl (wi_jn ?_)))
  by_cases q : hol S (S (26 + p)) < 0
  · have eq' : ent S (S (26 + p)) < 0 := by omega
    refine wi_ip q (wi_jn (wi_ip q (wi_jn (wi_ip eq' (wi_hl ?_)))))
    refine wi_be (over_bg' (S := S) (by (repeat rw [rd_fo (by decide)]); exact sg) F W0) ?_
    refine sum_fin Rw K hk ?_ (fun i i0 i1 => ?_)
    · refine ((((((((((Fr.rf.wr ?_).wr ?_).wr ?_).wr ?_).wr ?_).wr ?_).wr ?_).wr ?_).wr ?_).wr ?_).wr ?_ <;> exact Or.inl rfl
    · have hi : i = 0 ∨ i = 1 ∨ i = 2 ∨ i = 3 ∨ i = 4 ∨ i = 5 ∨ i = 6 ∨ i = 7 ∨ i = 8 ∨ i = 9 ∨ i = 10 := by omega
      rcases hi with rfl | rfl | rfl | rfl | rfl | rfl | rfl | rfl | rfl | rfl | rfl
      · rw [wrd_0]
        simp (disch := omega) only [w32_id, rd_eq, rd_ne, cp_in, cp_out, lc_lt, lc_gt, lc_eq]
      · rw [wrd_1]
        simp (disch := omega) only [w32_id, rd_eq, rd_ne, cp_in, cp_out, lc_lt, lc_gt, lc_eq]
      · rw [wrd_2]
        simp (disch := omega) only [w32_id, rd_eq, rd_ne, cp_in, cp_out, lc_lt, lc_gt, lc_eq]
      · rw [wrd_3]
        simp (disch := omega) only [w32_id, rd_eq, rd_ne, cp_in, cp_out, lc_lt, lc_gt, lc_eq]
      · rw [wrd_4]
        simp (disch := omega) only [w32_id, rd_eq, rd_ne, cp_in, cp_out, lc_lt, lc_gt, lc_eq]
      · rw [wrd_5, if_pos q]
        simp (disch := omega) only [w32_id, rd_eq, rd_ne, cp_in, cp_out, lc_lt, lc_gt, lc_eq]
      · rw [wrd_6, if_pos q]
        simp (disch := omega) only [w32_id, rd_eq, rd_ne, cp_in, cp_out, lc_lt, lc_gt, lc_eq]
      · rw [wrd_7, if_pos eq']
        simp (disch := omega) only [w32_id, rd_eq, rd_ne, cp_in, cp_out, lc_lt, lc_gt, lc_eq]
      · rw [wrd_8]
        simp (disch := omega) only [w32_id, rd_eq, rd_ne, cp_in, cp_out, lc_lt, lc_gt, lc_eq]
        rw [sg]
      · rw [wrd_9]
        simp (disch := omega) only [w32_id, rd_eq, rd_ne, cp_in, cp_out, lc_lt, lc_gt, lc_eq]
      · rw [wrd_10]
        simp (disch := omega) only [w32_id, rd_eq, rd_ne, cp_in, cp_out, lc_lt, lc_gt, lc_eq]
        rw [sg]
  · have hh := hb.2.2 (by omega)
    have eq' : ¬ ent S (S (26 + p)) < 0 := by omega
    rw [w32_id (x := 14 + hol S (S (26 + p))) (by omega) (by omega), w32_id (x := 82 + hol S (S (26 + p))) (by omega) (by omega), w32_id (x := 3 * ent S (S (26 + p))) (by omega) (by omega), w32_id (x := 46 + 3 * ent S (S (26 + p))) (by omega) (by omega)]
    refine wi_in q (wi_ib (by omega) (by omega) (wi_gn (wi_jn (wi_in q (wi_ib (by omega) (by omega) (wi_gn (wi_jn (wi_in eq' (wi_ib (by omega) (by omega) (wi_gn (wi_hl ?_)))))))))))
    refine wi_be (over_bg' (S := S) (by (repeat rw [rd_fo (by decide)]); exact sg) F W0) ?_
    refine sum_fin Rw K hk ?_ (fun i i0 i1 => ?_)
    · refine ((((((((((Fr.rf.wr ?_).wr ?_).wr ?_).wr ?_).wr ?_).wr ?_).wr ?_).wr ?_).wr ?_).wr ?_).wr ?_ <;> exact Or.inl rfl
    · have hi : i = 0 ∨ i = 1 ∨ i = 2 ∨ i = 3 ∨ i = 4 ∨ i = 5 ∨ i = 6 ∨ i = 7 ∨ i = 8 ∨ i = 9 ∨ i = 10 := by omega
      rcases hi with rfl | rfl | rfl | rfl | rfl | rfl | rfl | rfl | rfl | rfl | rfl
      · rw [wrd_0]
        simp (disch := omega) only [w32_id, rd_eq, rd_ne, cp_in, cp_out, lc_lt, lc_gt, lc_eq]
      · rw [wrd_1]
        simp (disch := omega) only [w32_id, rd_eq, rd_ne, cp_in, cp_out, lc_lt, lc_gt, lc_eq]
      · rw [wrd_2]
        simp (disch := omega) only [w32_id, rd_eq, rd_ne, cp_in, cp_out, lc_lt, lc_gt, lc_eq]
      · rw [wrd_3]
        simp (disch := omega) only [w32_id, rd_eq, rd_ne, cp_in, cp_out, lc_lt, lc_gt, lc_eq]
      · rw [wrd_4]
        simp (disch := omega) only [w32_id, rd_eq, rd_ne, cp_in, cp_out, lc_lt, lc_gt, lc_eq]
      · rw [wrd_5, if_neg q]
        simp (disch := omega) only [w32_id, rd_eq, rd_ne, cp_in, cp_out, lc_lt, lc_gt, lc_eq]
        rw [sg]
      · rw [wrd_6, if_neg q]
        simp (disch := omega) only [w32_id, rd_eq, rd_ne, cp_in, cp_out, lc_lt, lc_gt, lc_eq]
        rw [sg]
      · rw [wrd_7, if_neg eq']
        simp (disch := omega) only [w32_id, rd_eq, rd_ne, cp_in, cp_out, lc_lt, lc_gt, lc_eq]
        rw [sg]
      · rw [wrd_8]
        simp (disch := omega) only [w32_id, rd_eq, rd_ne, cp_in, cp_out, lc_lt, lc_gt, lc_eq]
        rw [sg]
      · rw [wrd_9]
        simp (disch := omega) only [w32_id, rd_eq, rd_ne, cp_in, cp_out, lc_lt, lc_gt, lc_eq]
      · rw [wrd_10]
        simp (disch := omega) only [w32_id, rd_eq, rd_ne, cp_in, cp_out, lc_lt, lc_gt, lc_eq]
        rw [sg]
theorem choice_L {B k : Int} {W : (Int → Int) → Int} {S : Int → Int} {h0 : MH} (H : Wf B S) (Rw : RwM h0 k (some W)) : ∀ (m f : Nat) (b x v : Int) (h : MH), m < f → v + m = S 12 → 0 ≤ v → m_rd h 344 = S → KeepR h0 h → m_rd h 334 21 = k → ∃ h', GX12_choice_L30 (fun w1 h2 => some (w1, h2)) f b x v h = some (chF W S m v b x, h') ∧ Fr ScM h h' := by
  have n12 := H.2.2.1.1
  intro m
  induction m with
  | zero =>
    intro f b x v h hf hv v0 sg K hk
    obtain ⟨q, rfl⟩ : ∃ q, f = q + 1 := ⟨f - 1, by omega⟩
    conv => enter [1, h', 1, 1]; unfold GX12_choice_L30
    rw [sg, if_neg (by omega)]
    exact ⟨h, rfl, Fr.rf⟩
  | succ m ih =>
    intro f b x v h hf hv v0 sg K hk
    obtain ⟨q, rfl⟩ : ∃ q, f = q + 1 := ⟨f - 1, by omega⟩
    conv => enter [1, h', 1, 1]; unfold GX12_choice_L30
    obtain ⟨_, h1, e1, rfl, F1⟩ := sumOfM_ok sg H Rw K hk v0 (show v < S 12 by omega)
    rw [sg, if_pos (by omega), e1, bd_some, w32_id (x := v + 1) (by omega) (by omega)]
    have sg1 : m_rd h1 344 = S := by
      rw [← sg]
      exact funext fun j => F1.rd (by unfold ScM; omega)
    have K1 := K.tr (ScM.kr F1)
    have hk1 : m_rd h1 334 21 = k := by
      rw [F1.rd (by unfold ScM; omega)]
      exact hk
    by_cases c : x < W (wrd S v)
    · rw [if_pos (lc_gt.2 c), show chF W S (m + 1) v b x = chF W S m (v + 1) v (W (wrd S v)) from if_pos c]
      obtain ⟨h', e', F'⟩ := ih q v (W (wrd S v)) (v + 1) h1 (by omega) (by omega) (by omega) sg1 K1 hk1
      exact ⟨h', e', F1.tr F'⟩
    · rw [if_neg (fun z => c (lc_gt.1 z)), show chF W S (m + 1) v b x = chF W S m (v + 1) b x from if_neg c]
      obtain ⟨h', e', F'⟩ := ih q b x (v + 1) h1 (by omega) (by omega) (by omega) sg1 K1 hk1
      exact ⟨h', e', F1.tr F'⟩
theorem choice_ok {B k : Int} {o : WF} {S : Int → Int} {h : MH} (sg : m_rd h 344 = S) (H : Wf B S) (Rw : RwM h k o) (hk : m_rd h 334 21 = k) : ∃ h', GX12_choice h = some (cho o S, h') ∧ Fr ScM h h' := by
  have n12 := H.2.2.1.1
  unfold GX12_choice
  cases o with
  | none =>
    have rr : k < 0 := Rw
    rw [if_pos (by omega), sg]
    show ∃ h', _ = some ((if 0 < S 12 then (0 : Int) else -1), h') ∧ _
    by_cases c : 0 < S 12
    · rw [if_pos c, if_pos c]
      exact ⟨h, rfl, Fr.rf⟩
    · rw [if_neg c, if_neg c]
      exact ⟨h, rfl, Fr.rf⟩
  | some W =>
    have rm := Rw.1
    rw [if_neg (by omega)]
    exact choice_L H Rw (S 12).toNat FU (-1) 0 0 h (by unfold FU; omega) (by omega) (by omega) sg KeepR.rf hk
theorem leaves_L {u n : Int} {K : MH → Option (Int × MH)} (n1 : n < 20) : ∀ (m f : Nat) (v : Int) (h : MH), m < f → v + m = n → 0 ≤ v → m_rd h 344 12 = n → ∃ h', GX12_leaves_L23 u K f v h = K h' ∧ Fr (fun a j => a = 344 ∧ 26 ≤ j ∧ j < 46) h h' ∧ (∀ k, 26 + v ≤ k → k < 26 + n → m_rd h' 344 k = m_rd h 344 (k + 1)) ∧ ∀ k, ¬ (26 + v ≤ k ∧ k < 26 + n) → m_rd h' 344 k = m_rd h 344 k := by
  intro m
  induction m with
  | zero =>
    intro f v h hf hv v0 hn
    obtain ⟨q, rfl⟩ : ∃ q, f = q + 1 := ⟨f - 1, by omega⟩
    conv => enter [1, h', 1, 1]; unfold GX12_leaves_L23
    rw [if_neg (by omega)]
    exact ⟨h, rfl, Fr.rf, fun k k0 k1 => by omega, fun k _ => rfl⟩
  | succ m ih =>
    intro f v h hf hv v0 hn
    obtain ⟨q, rfl⟩ : ∃ q, f = q + 1 := ⟨f - 1, by omega⟩
    conv => enter [1, h', 1, 1]; unfold GX12_leaves_L23
    rw [if_pos (by omega), w32_id (x := v + 1) (by omega) (by omega), w32_id (x := 26 + v) (by omega) (by omega), w32_id (x := 26 + v + 1) (by omega) (by omega), gd_ib (by omega) (by omega), gd_ib (by omega) (by omega), gd_nil]
    obtain ⟨h', e, F, a1, a2⟩ := ih q (v + 1) (m_wr h 344 (26 + v) (m_rd h 344 (26 + v + 1))) (by omega) (by omega) (by omega) (by rw [rd_ne (by omega)]; exact hn)
    refine ⟨h', e, Fr.tr (Fr.wr Fr.rf (by omega)) F, fun k k0 k1 => ?_, fun k k0 => ?_⟩
    · by_cases c : k = 26 + v
      · rw [a2 k (by omega), rd_eq rfl c, c]
      · rw [a1 k (by omega) k1, rd_ne (by omega)]
    · rw [a2 k (by omega), rd_ne (by omega)]
theorem leaves_ok {p : Int} {S : Int → Int} {h : MH} (sg : m_rd h 344 = S) (n12 : S 12 ≤ 20) (p0 : 0 ≤ p) (p1 : p < S 12) : ∃ h', GX12_leaves p h = some (S (26 + p), h') ∧ Fr (fun a j => a = 344 ∧ 10 ≤ j ∧ j < 82) h h' ∧ m_rd h' 344 = lvS p S := by
  unfold GX12_leaves
  rw [w32_id (x := 26 + p) (by omega) (by omega), sg, w32_id (x := S 12 - 1) (by omega) (by omega), gd_ib (by omega) (by omega), gd_nil]
  obtain ⟨h', e, F, a1, a2⟩ := leaves_L (u := S (26 + p)) (n := S 12 - 1) (K := fun h1 => some (S (26 + p), h1)) (by omega) (S 12 - 1 - p).toNat FU p (m_wr h 344 12 (S 12 - 1)) (by unfold FU; omega) (by omega) p0 (by simp (disch := omega) only [w32_id, rd_eq, rd_ne, cp_in, cp_out, lc_lt, lc_gt, lc_eq])
  refine ⟨h', e, (Fr.wr Fr.rf (by omega)).tr (F.wk (fun a j z => by omega)), ?_⟩
  funext k
  unfold lvS
  by_cases c : k = 12
  · rw [if_pos c, a2 k (by omega), rd_eq rfl c]
  rw [if_neg c]
  by_cases c2 : 26 + p ≤ k ∧ k < 25 + S 12
  · rw [if_pos c2, a1 k (by omega) (by omega), rd_ne (by omega), sg]
  · rw [if_neg c2, a2 k (by omega), rd_ne (by omega), sg]
theorem sorts_ok {B c : Int} {S : Int → Int} {h : MH} (sg : m_rd h 344 = S) (H : Wf B S) (hB : B ≤ 1000000) (c0 : 0 ≤ c) (c1 : c ≤ 100000) : ∃ h', GX12_sorts c h = some h' ∧ Fr (fun a j => (a = 344 ∧ 10 ≤ j ∧ j < 82) ∨ (a = 334 ∧ j = 23)) h h' ∧ m_rd h' 344 = soS c S ∧ m_rd h' 334 23 = soT c S := by
  obtain ⟨F, E, W, t1, t2, t3⟩ := id H
  have fb := F.b
  have hb := hol_b (c := c) E
  have s2 : m_rd (m_wr h 334 23 (-1)) 344 = S := by rw [rd_fo (by decide), sg]
  unfold GX12_sorts soS soT
  rw [holeOf_ok (by rw [sg]; exact F) (by rw [sg]; exact E) c0 c1, bd_some, sg]
  by_cases q : hol S c < 0
  · rw [if_pos q, if_pos q, if_pos q, s2, w32_id (by omega) (by omega)]
    refine ⟨_, rfl, (Fr.rf.wr (by omega)).wr (by omega), ?_, ?_⟩
    · rw [rd_fn, s2]
    · simp (disch := omega) only [w32_id, rd_eq, rd_ne, cp_in, cp_out, lc_lt, lc_gt, lc_eq]
  · have hh := hb.2.2 (by omega)
    have wl := W.2.1 (hol S c) hh.1 (by omega)
    rw [if_neg q, if_neg q, if_neg q, w32_id (x := 14 + hol S c) (by omega) (by omega), w32_id (x := 82 + hol S c) (by omega) (by omega), gd_ib (by omega) (by omega), gd_nil, gd_ib (by omega) (by omega), gd_nil]
    simp only [jn]
    rw [s2]
    by_cases q2 : S (14 + hol S c) < S (82 + hol S c)
    · rw [if_pos q2, if_pos q2, if_pos q2, gd_ib (by omega) (by omega), gd_nil, w32_id (by omega) (by omega)]
      refine ⟨_, rfl, (Fr.rf.wr (by omega)).wr (by omega), ?_, ?_⟩
      · rw [rd_fn, s2]
      · simp (disch := omega) only [w32_id, rd_eq, rd_ne, cp_in, cp_out, lc_lt, lc_gt, lc_eq]
    · obtain ⟨g, e, Fg, sgg⟩ := ties_ok (t := hol S c) (h := m_wr h 334 23 (-1)) (by rw [s2]; exact W) hh.1 (by omega)
      rw [s2] at sgg
      have s3 : m_rd (m_wr g 334 23 (hol S c)) 344 = tiS (hol S c) S := by rw [rd_fo (by decide), sgg]
      rw [if_neg q2, if_neg q2, if_neg q2, e, bv_some, gd_ib (by omega) (by omega), gd_nil, s3, ti_at, if_pos rfl]
      refine ⟨_, rfl, ((((Fr.wr Fr.rf (by omega)).tr (Fg.wk (fun a j z => by omega))).wr (by omega)).wr (by omega)), ?_, ?_⟩
      · rw [rd_fn, s3]
        rfl
      · simp (disch := omega) only [w32_id, rd_eq, rd_ne, cp_in, cp_out, lc_lt, lc_gt, lc_eq]
theorem passes_ok {B k : Int} {o : WF} {S : Int → Int} {h : MH} (sg : m_rd h 344 = S) (H : Wf B S) (hB : B ≤ 100000) (Rw : RwM h k o) (hk : m_rd h 334 21 = k) : ∃ h', GX12_passes h = some (paC o S, h') ∧ Fr StM h h' ∧ m_rd h' 344 = paS o S ∧ m_rd h' 334 23 = paT o S := by
  obtain ⟨F, E, W, t1, t2, t3⟩ := id H
  have n12 := W.1
  have cb := cho_b (o := o) (S := S) n12.1
  have ccb := cod_b F
  obtain ⟨h1, e1, F1⟩ := choice_ok sg H Rw hk
  have sg1 : m_rd h1 344 = S := by
    rw [← sg]
    exact funext fun j => F1.rd (by unfold ScM; omega)
  have F1' : Fr StM h h1 := F1.wk (fun a j z => by unfold ScM at z; unfold StM; omega)
  have s2 : m_rd (m_wr h1 334 23 (-1)) 344 = S := by rw [rd_fo (by decide), sg1]
  unfold GX12_passes paC paT paS paX
  rw [e1, bd_some]
  simp only [jn]
  by_cases q : cho o S < 0
  · rw [if_pos q, if_pos q, if_pos q, if_pos q, s2, w32_id (by omega) (by omega)]
    refine ⟨_, rfl, (F1'.wr (by unfold StM; omega)).wr (by unfold StM; omega), ?_, ?_⟩
    · rw [rd_fn, s2]
    · simp (disch := omega) only [w32_id, rd_eq, rd_ne, cp_in, cp_out, lc_lt, lc_gt, lc_eq]
  · have q1 := cb.2 (by omega)
    obtain ⟨c0, c1⟩ := W.2.2 (cho o S) (by omega) q1
    have lw := lvs_wf H (p := cho o S) (by omega) q1
    have lk : ∀ {k : Int}, k ≠ 12 ∧ (k < 26 ∨ 45 ≤ k) → lvS (cho o S) S k = S k := fun z => lv_k (by omega) n12.2 z
    have k3 : lvS (cho o S) S 3 = S 3 := lk (by omega)
    have fb := F.b
    obtain ⟨h6, e6, F6, s6⟩ := leaves_ok (p := cho o S) s2 n12.2 (by omega) q1
    obtain ⟨h8, e8, F8, s8, T8⟩ := sorts_ok (c := S (26 + cho o S)) s6 lw (by omega) c0 (by omega)
    rw [if_neg q, if_neg q, if_neg q, if_neg q, e6, bd_some, e8, bv_some, s8, so_k lw.2.1 (by omega) (by omega), lk (by omega), w32_id (by omega) (by omega)]
    refine ⟨_, rfl, ((((F1'.wr (by unfold StM; omega)).tr (F6.wk (fun a j z => by unfold StM; omega))).tr (F8.wk (fun a j z => by unfold StM; omega))).wr (by unfold StM; omega)), ?_, ?_⟩
    · rw [rd_fn, s8]
    · simp (disch := omega) only [w32_id, rd_eq, rd_ne, cp_in, cp_out, lc_lt, lc_gt, lc_eq]
      exact T8
