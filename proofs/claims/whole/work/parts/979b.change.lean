/-! change: holes that had best change -/
def swp (a b x : Int) : Int := if x = a then b else if x = b then a else x
def chV (a b : Int) (S : Int → Int) (n : Int) : Int → Int := fun k => if 48 ≤ k ∧ k < 48 + 3 * n ∧ k % 3 = 0 then swp a b (S k) else S k
theorem chV_o {a b n k : Int} {S : Int → Int} (z : ¬ (48 ≤ k ∧ k < 48 + 3 * n ∧ k % 3 = 0)) : chV a b S n k = S k := if_neg z
theorem chV_h {a b n e : Int} {S : Int → Int} (e0 : 0 ≤ e) (e1 : e < n) : chV a b S n (48 + 3 * e) = swp a b (S (48 + 3 * e)) := if_pos (by omega)
theorem hol_ch {a b c : Int} {S : Int → Int} (E : WfE S) (a0 : 0 ≤ a) (b0 : 0 ≤ b) : hol (chV a b S (S 13)) c = swp a b (hol S c) := by
  have n13 := E.1
  have eb := ent_b (c := c) E
  have e : ent (chV a b S (S 13)) c = ent S c := ent_sg n13.2 (chV_o (by omega)) (chV_o (by omega)) (chV_o (by omega)) (fun i i0 i1 => ⟨chV_o (by omega), chV_o (by omega)⟩)
  unfold hol
  rw [e]
  by_cases q : ent S c < 0
  · rw [if_pos q, if_pos q]
    unfold swp
    rw [if_neg (by omega), if_neg (by omega)]
  · rw [if_neg q, if_neg q, chV_h (by omega) eb.2.1]
theorem ch_wf {a b : Int} {S : Int → Int} (F : WfF S) (E : WfE S) (W : WfW S) (f1 : S 0 = 1) (a0 : 0 ≤ a) (a1 : a < S 3) (b0 : 0 ≤ b) (b1 : b < S 3) : WfF (chV a b S (S 13)) ∧ WfE (chV a b S (S 13)) ∧ WfW (chV a b S (S 13)) := by
  obtain ⟨E1, E2, E3⟩ := id E
  have o : ∀ {k : Int}, ¬ (48 ≤ k ∧ k < 48 + 3 * S 13 ∧ k % 3 = 0) → chV a b S (S 13) k = S k := fun z => chV_o z
  refine ⟨?_, ⟨?_, fun i i0 i1 => ?_, fun i j i0 i1 i2 => ?_⟩, W.sg (fun k z => o (by omega))⟩
  · unfold WfF
    rw [o (by omega), o (by omega), o (by omega), o (by omega)]
    rcases F with ⟨x1, x2, x3, x4, x5, x6, x7, x8⟩ | q
    · refine Or.inl ⟨x1, x2, x3, x4, x5, x6, x7, fun i i0 i1 => ?_⟩
      rw [o (by omega)]
      exact x8 i i0 i1
    · omega
  · rw [o (by omega)]
    exact E1
  · rw [o (by omega)] at i1
    have q := E2 i i0 i1
    rw [o (k := 1) (by omega), o (k := 2) (by omega), o (k := 3) (by omega), o (k := 46 + 3 * i) (by omega), o (k := 47 + 3 * i) (by omega), chV_h i0 i1]
    refine ⟨q.1, q.2.1, q.2.2.1, q.2.2.2.1, ?_⟩
    unfold swp
    split
    · omega
    split
    · omega
    · exact q.2.2.2.2
  · rw [o (k := 13) (by omega)] at i2
    rw [o (k := 46 + 3 * i) (by omega), o (k := 47 + 3 * i) (by omega), o (k := 46 + 3 * j) (by omega), o (k := 47 + 3 * j) (by omega)]
    exact E3 i j i0 i1 i2
theorem chM_L {a b : Int} {S : Int → Int} {K : MH → Option MH} (n13 : S 13 ≤ 12) : ∀ (m f : Nat) (v : Int) (h : MH), m < f → v + m = S 13 → 0 ≤ v → m_rd h 344 = chV a b S v → ∃ h', GX12_changes_L2 a b K f v h = K h' ∧ Fr (fun x j => x = 344 ∧ 10 ≤ j ∧ j < 82) h h' ∧ m_rd h' 344 = chV a b S (S 13) := by
  intro m
  induction m with
  | zero =>
    intro f v h hf hv v0 sg
    obtain ⟨q, rfl⟩ : ∃ q, f = q + 1 := ⟨f - 1, by omega⟩
    conv => enter [1, h', 1, 1]; unfold GX12_changes_L2
    rw [sg, chV_o (k := 13) (by omega), if_neg (by omega)]
    refine ⟨h, rfl, Fr.rf, ?_⟩
    rw [sg, show v = S 13 by omega]
  | succ m ih =>
    intro f v h hf hv v0 sg
    obtain ⟨q, rfl⟩ : ∃ q, f = q + 1 := ⟨f - 1, by omega⟩
    have nx : ∀ y, y = swp a b (S (48 + 3 * v)) → m_rd (m_wr h 344 (48 + 3 * v) y) 344 = chV a b S (v + 1) := by
      intro y hy
      rw [rd_fn, sg]
      funext k
      by_cases c : k = 48 + 3 * v
      · rw [up_eq c, c, chV_h v0 (by omega), hy]
      · rw [up_k c]
        unfold chV
        by_cases c2 : 48 ≤ k ∧ k < 48 + 3 * v ∧ k % 3 = 0
        · rw [if_pos c2, if_pos (by omega)]
        · rw [if_neg c2, if_neg (by omega)]
    have st : chV a b S v (48 + 3 * v) = S (48 + 3 * v) := chV_o (by omega)
    conv => enter [1, h', 1, 1]; unfold GX12_changes_L2
    rw [sg, chV_o (k := 13) (by omega), if_pos (by omega), w32_id (x := 3 * v) (by omega) (by omega), w32_id (x := 46 + 3 * v) (by omega) (by omega), w32_id (x := 46 + 3 * v + 2) (by omega) (by omega), show 46 + 3 * v + 2 = 48 + 3 * v by omega, gd_ib (by omega) (by omega), gd_nil, gd_ib (by omega) (by omega), gd_nil, st, w32_id (x := v + 1) (by omega) (by omega)]
    have go : ∀ y, y = swp a b (S (48 + 3 * v)) → ∃ h', GX12_changes_L2 a b K q (v + 1) (m_wr h 344 (48 + 3 * v) y) = K h' ∧ Fr (fun x j => x = 344 ∧ 10 ≤ j ∧ j < 82) h h' ∧ m_rd h' 344 = chV a b S (S 13) := by
      intro y hy
      obtain ⟨h', e', F', s'⟩ := ih q (v + 1) _ (by omega) (by omega) (by omega) (nx y hy)
      exact ⟨h', e', (Fr.wr Fr.rf (by omega)).tr F', s'⟩
    by_cases c1 : S (48 + 3 * v) = a
    · rw [if_pos c1]
      refine go b ?_
      unfold swp
      rw [if_pos c1]
    · rw [if_neg c1, gd_ib (by omega) (by omega), gd_nil]
      by_cases c2 : S (48 + 3 * v) = b
      · rw [if_pos c2, gd_ib (by omega) (by omega), gd_nil]
        refine go a ?_
        unfold swp
        rw [if_neg c1, if_pos c2]
      · rw [if_neg c2]
        have eq' : chV a b S v = chV a b S (v + 1) := by
          funext k
          unfold chV
          by_cases c : k = 48 + 3 * v
          · rw [if_neg (by omega), if_pos (by omega), c]
            unfold swp
            rw [if_neg c1, if_neg c2]
          · by_cases c3 : 48 ≤ k ∧ k < 48 + 3 * v ∧ k % 3 = 0
            · rw [if_pos c3, if_pos (by omega)]
            · rw [if_neg c3, if_neg (by omega)]
        exact ih q (v + 1) h (by omega) (by omega) (by omega) (by rw [← eq']; exact sg)
theorem changes_ok {a b : Int} {S : Int → Int} {h : MH} (n0 : 0 ≤ S 13) (n13 : S 13 ≤ 12) (sg : m_rd h 344 = S) : ∃ h', GX12_changes a b h = some h' ∧ Fr (fun x j => x = 344 ∧ 10 ≤ j ∧ j < 82) h h' ∧ m_rd h' 344 = chV a b S (S 13) := by
  have z : m_rd h 344 = chV a b S 0 := by
    rw [sg]
    funext k
    exact (chV_o (by omega)).symm
  unfold GX12_changes
  exact chM_L (K := fun h1 => some h1) n13 (S 13).toNat FU 0 h (by unfold FU; omega) (by omega) (by omega) z
def swG (S : Int → Int) (a b : Int) : Int → Int := fun v => swp a b (hol S (S (26 + v)))
abbrev B3 : Type := Int × Int × Int
def upc (a b : Int) (x : Int) (c : B3) : B3 := if x < c.1 then (x, a, b) else c
def chF3 (S : Int → Int) (a : Int) : Nat → Int → B3 → B3
  | 0, _, c => c
  | m + 1, b, c => chF3 S a m (b + 1) (upc a b (trF (swG S a b) S).2.1 c)
def chA3 (S : Int → Int) : Nat → Int → B3 → B3
  | 0, _, c => c
  | m + 1, a, c => chA3 S m (a + 1) (chF3 S a (S 3 - (a + 1)).toNat (a + 1) c)
def CR3 (h : MH) (c : B3) : Prop := m_rd h 323 1 = c.1 ∧ m_rd h 323 4 = c.2.1 ∧ m_rd h 323 5 = c.2.2
theorem CR3.cg {h h' : MH} {c : B3} (R : CR3 h c) (e : ∀ j, 0 ≤ j → j < 6 → m_rd h' 323 j = m_rd h 323 j) : CR3 h' c := by
  obtain ⟨a1, a2, a3⟩ := R
  refine ⟨?_, ?_, ?_⟩
  · rw [e _ (by omega) (by omega)]
    exact a1
  · rw [e _ (by omega) (by omega)]
    exact a2
  · rw [e _ (by omega) (by omega)]
    exact a3
theorem scC_L {S : Int → Int} {B a b : Int} {K : MH → Option MH} (H : Wf B S) : ∀ (m f : Nat) (v : Int) (h : MH), m < f → v + m = S 12 → 0 ≤ v → AdC h S → (∀ i, 0 ≤ i → i < v → m_rd h 324 i = swG S a b i) → ∃ h', GX0_sendChanged_L3 32 a b K f v h = K h' ∧ Fr (fun x _ => x = 324) h h' ∧ ∀ i, 0 ≤ i → i < S 12 → m_rd h' 324 i = swG S a b i := by
  have W := H.2.2.1
  have n12 := W.1
  intro m
  induction m with
  | zero =>
    intro f v h hf hv v0 A G
    obtain ⟨q, rfl⟩ : ∃ q, f = q + 1 := ⟨f - 1, by omega⟩
    conv => enter [1, h', 1, 1]; unfold GX0_sendChanged_L3
    rw [A.2.2.2.1, if_neg (by omega)]
    exact ⟨h, rfl, Fr.rf, fun i i0 i1 => G i i0 (by omega)⟩
  | succ m ih =>
    intro f v h hf hv v0 A G
    obtain ⟨q, rfl⟩ : ∃ q, f = q + 1 := ⟨f - 1, by omega⟩
    obtain ⟨c0, c1⟩ := W.2.2 v v0 (by omega)
    have er : m_rd h 37 v = S (26 + v) := A.2.2.2.2.2.2.2 v v0 (by omega)
    conv => enter [1, h', 1, 1]; unfold GX0_sendChanged_L3
    rw [A.2.2.2.1, if_pos (by omega), gd_ib v0 (by omega), gd_nil, show (32 : Int) + 5 = 37 from rfl, er, A.1.hf c0 c1, bd_some, w32_id (x := v + 1) (by omega) (by omega)]
    have go : ∀ y, y = swp a b (hol S (S (26 + v))) → ∃ h', gd [IB v 20] (GX0_sendChanged_L3 32 a b K q (v + 1) (m_wr h 324 v y)) = K h' ∧ Fr (fun x _ => x = 324) h h' ∧ ∀ i, 0 ≤ i → i < S 12 → m_rd h' 324 i = swG S a b i := by
      intro y hy
      have F2 : Fr (fun a _ => a = 324) h (m_wr h 324 v y) := Fr.wr Fr.rf rfl
      obtain ⟨h', e', F', G'⟩ := ih q (v + 1) (m_wr h 324 v y) (by omega) (by omega) (by omega) (A.cg F2 (fun a j z => by omega)) (fun i i0 i1 => by
        by_cases c : i = v
        · rw [rd_eq rfl c, c]
          exact hy
        · rw [rd_ne (Or.inr c)]
          exact G i i0 (by omega))
      rw [gd_ib v0 (by omega), gd_nil]
      exact ⟨h', e', F2.tr F', G'⟩
    by_cases k1 : hol S (S (26 + v)) = a
    · rw [if_pos k1]
      refine go b ?_
      unfold swp
      rw [if_pos k1]
    · rw [if_neg k1]
      by_cases k2 : hol S (S (26 + v)) = b
      · rw [if_pos k2]
        refine go a ?_
        unfold swp
        rw [if_neg k1, if_pos k2]
      · rw [if_neg k2]
        refine go _ ?_
        unfold swp
        rw [if_neg k1, if_neg k2]
theorem scC21 {S : Int → Int} {B a : Int} {K : MH → Option MH} (H : Wf B S) (f1 : S 0 = 1) : ∀ (m f : Nat) (v : Int) (c : B3) (h : MH), m < f → v + m = S 3 → 0 ≤ v → AdC h S → CR3 h c → ∃ h', GX0_seekChange_L21 21 32 a K f v h = K h' ∧ Fr (fun x _ => 323 ≤ x ∧ x < 326) h h' ∧ CR3 h' (chF3 S a m v c) := by
  have n12 := H.2.2.1.1
  have fw := frw H.1 f1
  intro m
  induction m with
  | zero =>
    intro f v c h hf hv v0 A R
    obtain ⟨q, rfl⟩ : ∃ q, f = q + 1 := ⟨f - 1, by omega⟩
    conv => enter [1, h', 1, 1]; unfold GX0_seekChange_L21
    rw [A.1.2.2.2.1.2.2.1, if_neg (by omega)]
    exact ⟨h, rfl, Fr.rf, R⟩
  | succ m ih =>
    intro f v c h hf hv v0 A R
    obtain ⟨q, rfl⟩ : ∃ q, f = q + 1 := ⟨f - 1, by omega⟩
    conv => enter [1, h', 1, 1]; unfold GX0_seekChange_L21
    obtain ⟨h1, e1, F1, G1⟩ := scC_L (a := a) (b := v) (K := fun h1 => some h1) H (S 12).toNat FU 0 h (by unfold FU; omega) (by omega) (by omega) A (fun i i0 i1 => by omega)
    have A1 := A.cg F1 (fun a j z => by omega)
    obtain ⟨h2, e2, F2, a1, a2⟩ := tryGoals_ok (G := swG S a v) H f1 A1.1.2.2.2.1 A1.2 G1
    have A2 := A1.cg F2 (fun a j z => by unfold FtG at z; omega)
    have R2 : CR3 h2 c := R.cg (fun j _ _ => by rw [F2.rd (by unfold FtG; omega), F1.rd (by omega)])
    have F12 : Fr (fun x _ => 323 ≤ x ∧ x < 326) h h2 := (F1.wk (fun a j z => by omega)).tr (F2.wk (fun a j z => by unfold FtG at z; omega))
    rw [A.1.2.2.2.1.2.2.1, if_pos (by omega), show GX0_sendChanged 32 a v h = some h1 from e1, bv_some, e2, bv_some, a2, R2.1, w32_id (x := v + 1) (by omega) (by omega)]
    show ∃ h', _ = _ ∧ _ ∧ CR3 h' (chF3 S a m (v + 1) (upc a v (trF (swG S a v) S).2.1 c))
    unfold upc
    by_cases k : (trF (swG S a v) S).2.1 < c.1
    · rw [if_pos k, if_pos k]
      have F3 : Fr (fun x _ => 323 ≤ x ∧ x < 326) h2 (m_wr (m_wr (m_wr h2 323 1 (trF (swG S a v) S).2.1) 323 4 a) 323 5 v) := ((Fr.rf.wr (by omega)).wr (by omega)).wr (by omega)
      obtain ⟨h', e', F', R'⟩ := ih q (v + 1) ((trF (swG S a v) S).2.1, a, v) (m_wr (m_wr (m_wr h2 323 1 (trF (swG S a v) S).2.1) 323 4 a) 323 5 v) (by omega) (by omega) (by omega) (A2.cg F3 (fun a j z => by omega)) ⟨by simp (disch := omega) only [w32_id, rd_eq, rd_ne, cp_in, cp_out, lc_lt, lc_gt, lc_eq], by simp (disch := omega) only [w32_id, rd_eq, rd_ne, cp_in, cp_out, lc_lt, lc_gt, lc_eq], by simp (disch := omega) only [w32_id, rd_eq, rd_ne, cp_in, cp_out, lc_lt, lc_gt, lc_eq]⟩
      exact ⟨h', e', (F12.tr F3).tr F', R'⟩
    · rw [if_neg k, if_neg k]
      obtain ⟨h', e', F', R'⟩ := ih q (v + 1) c h2 (by omega) (by omega) (by omega) A2 R2
      exact ⟨h', e', F12.tr F', R'⟩
theorem scC8 {S : Int → Int} {B : Int} {K : MH → Option MH} (H : Wf B S) (f1 : S 0 = 1) : ∀ (m f : Nat) (v : Int) (c : B3) (h : MH), m < f → v + m = S 3 → 0 ≤ v → AdC h S → CR3 h c → ∃ h', GX0_seekChange_L8 21 32 K f v h = K h' ∧ Fr (fun x _ => 323 ≤ x ∧ x < 326) h h' ∧ CR3 h' (chA3 S m v c) := by
  have fw := frw H.1 f1
  intro m
  induction m with
  | zero =>
    intro f v c h hf hv v0 A R
    obtain ⟨q, rfl⟩ : ∃ q, f = q + 1 := ⟨f - 1, by omega⟩
    conv => enter [1, h', 1, 1]; unfold GX0_seekChange_L8
    rw [A.1.2.2.2.1.2.2.1, if_neg (by omega)]
    exact ⟨h, rfl, Fr.rf, R⟩
  | succ m ih =>
    intro f v c h hf hv v0 A R
    obtain ⟨q, rfl⟩ : ∃ q, f = q + 1 := ⟨f - 1, by omega⟩
    conv => enter [1, h', 1, 1]; unfold GX0_seekChange_L8
    obtain ⟨h1, e1, F1, R1⟩ := scC21 (a := v) (K := fun h1 => GX0_seekChange_L8 21 32 K q (m_w32 (v + 1)) h1) H f1 (S 3 - (v + 1)).toNat FU (v + 1) c h (by unfold FU; omega) (by omega) (by omega) A R
    rw [A.1.2.2.2.1.2.2.1, if_pos (by omega), w32_id (x := v + 1) (by omega) (by omega)]
    rw [w32_id (x := v + 1) (by omega) (by omega)] at e1
    rw [e1]
    obtain ⟨h', e', F', R'⟩ := ih q (v + 1) (chF3 S v (S 3 - (v + 1)).toNat (v + 1) c) h1 (by omega) (by omega) (by omega) (A.cg F1 (fun a j z => by omega)) R1
    exact ⟨h', e', F1.tr F', R'⟩
theorem seekChange_ok {S : Int → Int} {B : Int} {h : MH} (H : Wf B S) (f1 : S 0 = 1) (A : AdC h S) : ∃ h', GX0_seekChange 21 32 h = some h' ∧ Fr (fun a _ => 323 ≤ a ∧ a < 326) h h' ∧ CR3 h' (chA3 S (S 3).toNat 0 ((trF (asG S) S).2.1, -1, -1)) := by
  have fw := frw H.1 f1
  obtain ⟨h1, e1, F1, R1, R5⟩ := tryAsIs_ok H f1 A
  unfold GX0_seekChange
  rw [e1, bv_some]
  obtain ⟨h', e', F', R'⟩ := scC8 (K := fun h2 => some h2) H f1 (S 3).toNat FU 0 ((trF (asG S) S).2.1, -1, -1) h1 (by unfold FU; omega) (by omega) (by omega) (A.cg F1 (fun a j z => by omega)) ⟨R1.2.1, R1.2.2.2.2, R5⟩
  exact ⟨h', e', F1.tr F', R'⟩
theorem cgM60 {S : Int → Int} {B a u : Int} {K : Int → Int → Int → MH → Option (Int × MH)} (H : Wf B S) (hB : B ≤ 5000) (f1 : S 0 = 1) (a0 : 0 ≤ a) (a1 : a < S 3) : ∀ (m f : Nat) (v : Int) (c : B3) (h : MH), m < f → v + m = S 3 → 0 ≤ v → m_rd h 344 = S → (∀ k, 0 ≤ k → k < 72 → m_rd h 350 k = S (10 + k)) → ∃ h', GX12_change_L60 u a K f c.1 c.2.1 c.2.2 v h = K (chF3 S a m v c).1 (chF3 S a m v c).2.1 (chF3 S a m v c).2.2 h' ∧ Fr FsA h h' ∧ m_rd h' 344 = S := by
  obtain ⟨F, E, W, x1, x2, x3⟩ := id H
  have fw := frw F f1
  have n13 := E.1
  intro m
  induction m with
  | zero =>
    intro f v c h hf hv v0 sg kp
    obtain ⟨q, rfl⟩ : ∃ q, f = q + 1 := ⟨f - 1, by omega⟩
    conv => enter [1, h', 1, 1]; unfold GX12_change_L60
    rw [sg, if_neg (by omega)]
    exact ⟨h, rfl, Fr.rf, sg⟩
  | succ m ih =>
    intro f v c h hf hv v0 sg kp
    obtain ⟨q, rfl⟩ : ∃ q, f = q + 1 := ⟨f - 1, by omega⟩
    conv => enter [1, h', 1, 1]; unfold GX12_change_L60
    obtain ⟨h1, e1, F1, s1⟩ := changes_ok (a := a) (b := v) n13.1 n13.2 sg
    obtain ⟨w1, w2, w3⟩ := ch_wf (b := v) F E W f1 a0 a1 v0 (by omega)
    have ag : ∀ k, (k < 46 ∧ k ≠ 13) ∨ 82 ≤ k → chV a v S (S 13) k = S k := fun k z => chV_o (by omega)
    obtain ⟨h2, e2, F2, s2, b1, b2⟩ := sortsAll_ok (S := S) s1 ag w1 w2 w3 (by rw [ag 0 (by omega)]; exact f1) (by rw [ag 11 (by omega)]; exact x1) (by rw [ag 11 (by omega)]; omega) (fun k k0 k1 => by rw [F1.rd (by omega)]; exact kp k k0 k1)
    have te : trF (fun i => hol (chV a v S (S 13)) (S (26 + i))) S = trF (swG S a v) S := tr_cg W.1.1 (fun i i0 i1 => hol_ch E a0 v0)
    rw [te] at b2
    have F12 : Fr FsA h h2 := (F1.wk (fun a j z => Or.inl z)).tr F2
    rw [sg, if_pos (by omega), e1, bv_some, e2, bv_some, b2, w32_id (x := v + 1) (by omega) (by omega)]
    have kp2 : ∀ k, 0 ≤ k → k < 72 → m_rd h2 350 k = S (10 + k) := fun k k0 k1 => by
      rw [F12.rd (by unfold FsA; omega)]
      exact kp k k0 k1
    by_cases k : (trF (swG S a v) S).2.1 < c.1
    · rw [if_pos k, show chF3 S a (m + 1) v c = chF3 S a m (v + 1) ((trF (swG S a v) S).2.1, a, v) by show chF3 S a m (v + 1) (upc a v _ c) = _; unfold upc; rw [if_pos k]]
      obtain ⟨h', e', F', s'⟩ := ih q (v + 1) ((trF (swG S a v) S).2.1, a, v) h2 (by omega) (by omega) (by omega) s2 kp2
      exact ⟨h', e', F12.tr F', s'⟩
    · rw [if_neg k, show chF3 S a (m + 1) v c = chF3 S a m (v + 1) c by show chF3 S a m (v + 1) (upc a v _ c) = _; unfold upc; rw [if_neg k]]
      obtain ⟨h', e', F', s'⟩ := ih q (v + 1) c h2 (by omega) (by omega) (by omega) s2 kp2
      exact ⟨h', e', F12.tr F', s'⟩
theorem cgM43 {S : Int → Int} {B u : Int} {K : Int → Int → Int → MH → Option (Int × MH)} (H : Wf B S) (hB : B ≤ 5000) (f1 : S 0 = 1) : ∀ (m f : Nat) (v : Int) (c : B3) (h : MH), m < f → v + m = S 3 → 0 ≤ v → m_rd h 344 = S → (∀ k, 0 ≤ k → k < 72 → m_rd h 350 k = S (10 + k)) → ∃ h', GX12_change_L43 u K f c.1 c.2.1 c.2.2 v h = K (chA3 S m v c).1 (chA3 S m v c).2.1 (chA3 S m v c).2.2 h' ∧ Fr FsA h h' ∧ m_rd h' 344 = S := by
  have fw := frw H.1 f1
  intro m
  induction m with
  | zero =>
    intro f v c h hf hv v0 sg kp
    obtain ⟨q, rfl⟩ : ∃ q, f = q + 1 := ⟨f - 1, by omega⟩
    conv => enter [1, h', 1, 1]; unfold GX12_change_L43
    rw [sg, if_neg (by omega)]
    exact ⟨h, rfl, Fr.rf, sg⟩
  | succ m ih =>
    intro f v c h hf hv v0 sg kp
    obtain ⟨q, rfl⟩ : ∃ q, f = q + 1 := ⟨f - 1, by omega⟩
    conv => enter [1, h', 1, 1]; unfold GX12_change_L43
    obtain ⟨h1, e1, F1, s1⟩ := cgM60 (u := u) (a := v) (K := fun w1 w2 w3 h4 => GX12_change_L43 u K q w1 w2 w3 (v + 1) h4) H hB f1 v0 (by omega) (S 3 - (v + 1)).toNat FU (v + 1) c h (by unfold FU; omega) (by omega) (by omega) sg kp
    rw [sg, if_pos (by omega), w32_id (x := v + 1) (by omega) (by omega), e1]
    obtain ⟨h', e', F', s'⟩ := ih q (v + 1) (chF3 S v (S 3 - (v + 1)).toNat (v + 1) c) h1 (by omega) (by omega) (by omega) s1 (fun k k0 k1 => by rw [F1.rd (by unfold FsA; omega)]; exact kp k k0 k1)
    exact ⟨h', e', F1.tr F', s'⟩
theorem c_change (u : Int) : Call (GX11_change u) (GX12_change u) := by
  intro h H
  obtain ⟨⟨d1, d2, d3, d4, d5, d6, d7⟩, w1, w2, w3, w4, w5, w6, w7⟩ := H.2.2.2.1
  have bad : m_rd h 344 0 = 1 → ¬ (0 ≤ u ∧ u ≤ 2) → Wi (GX12_change u h) (fun w h2 => -2 = w ∧ Inv h2) := by
    intro f1 c
    unfold GX12_change
    exact wi_be isFrame_ok (wi_in (by rw [t01]; exact fun z => z f1) (wi_be in_ok (wi_ip (by rw [t01]; exact c) (wi_ret ⟨rfl, H⟩))))
  unfold GX11_change
  refine wi_be (hasFrame_ok H) ?_
  by_cases f1 : m_rd h 344 0 = 1
  · refine wi_in (by rw [t01]; exact fun z => z f1) ?_
    by_cases u0 : u < 0
    · exact wi_ip u0 (wi_ret (bad f1 (by omega)))
    refine wi_in u0 ?_
    by_cases u1 : 2 < u
    · exact wi_ip u1 (wi_ret (bad f1 (by omega)))
    refine wi_in u1 ?_
    have fw := frw w1.1 f1
    obtain ⟨g, e, F, D, I⟩ := drawNow_ok H
    obtain ⟨h4, e4, F4, R4⟩ := seekChange_ok w1 f1 (adNow H F D)
    refine wi_bw e (wi_bw e4 ?_)
    have I4 : Inv h4 := I.scr (F4.wk (fun a j z => by unfold Scr; omega))
    have s4 : m_rd h4 344 = m_rd h 344 := by
      rw [← D.2.2.2.2.2]
      exact funext fun j => F4.rd (by omega)
    obtain ⟨b, hb⟩ : ∃ b, b = chA3 (m_rd h 344) (m_rd h 344 3).toNat 0 ((trF (asG (m_rd h 344)) (m_rd h 344)).2.1, -1, -1) := ⟨_, rfl⟩
    rw [← hb] at R4
    have mod : ∀ v, v = (if u = 0 then b.1 else if u = 1 then b.2.1 else b.2.2) → Wi (GX12_change u h4) (fun w h2 => v = w ∧ Inv h2) := by
      intro v hv
      obtain ⟨g5, x5, G5, kp⟩ := keeps_ok (h := h4)
      have s5 : m_rd g5 344 = m_rd h 344 := by
        rw [← s4]
        exact funext fun j => G5.rd (by omega)
      obtain ⟨g6, x6, G6, s6, a1, a2⟩ := sortsAll_ok (S := m_rd h 344) s5 (fun _ _ => rfl) w1.1 w1.2.1 w1.2.2.1 f1 w1.2.2.2.1 (by have := w1.2.2.2; omega) (fun k k0 k1 => by rw [kp k k0 k1, s4])
      have a2' : m_rd g6 334 32 = (trF (asG (m_rd h 344)) (m_rd h 344)).2.1 := a2
      obtain ⟨g7, x7, G7, s7⟩ := cgM43 (u := u) (K := fun w7 w8 w9 h10 => if u = 0 then some (w7, h10) else if u = 1 then some (w8, h10) else some (w9, h10)) w1 (by omega) f1 (m_rd h 344 3).toNat FU 0 ((trF (asG (m_rd h 344)) (m_rd h 344)).2.1, -1, -1) g6 (by unfold FU; omega) (by omega) (by omega) s6 (fun k k0 k1 => by rw [G6.rd (by unfold FsA; omega), kp k k0 k1, s4])
      rw [← hb] at x7
      have I7 : Inv g7 := by
        refine I4.scr (Fr.back ?_ (by rw [s7, s4]) ?_)
        · exact ((G5.wk (fun a j z => by unfold Scr; omega)).tr (G6.wk (fun a j z => by unfold FsA at z; unfold Scr; omega))).tr (G7.wk (fun a j z => by unfold FsA at z; unfold Scr; omega))
        · rw [G7.rd (by unfold FsA; omega), G6.rd (by unfold FsA; omega), G5.rd (by omega)]
      unfold GX12_change
      refine wi_be isFrame_ok (wi_in (by rw [t01, s4]; exact fun z => z f1) (wi_be in_ok (wi_in (by rw [t01]; omega) (wi_bw x5 (wi_bw x6 ?_)))))
      rw [a2']
      refine wi_rw x7 ?_
      refine wi_it (fun z => wi_ret ⟨?_, I7⟩) (fun z0 => wi_it (fun z => wi_ret ⟨?_, I7⟩) (fun z => wi_ret ⟨?_, I7⟩))
      · rw [hv, if_pos z]
      · rw [hv, if_neg z0, if_pos z]
      · rw [hv, if_neg z0, if_neg z]
    refine wi_it (fun z => wi_ret (mod _ ?_)) (fun z0 => wi_it (fun z => wi_ret (mod _ ?_)) (fun z => wi_ret (mod _ ?_)))
    · rw [if_pos z]
      exact R4.1
    · rw [if_neg z0, if_pos z]
      exact R4.2.1
    · rw [if_neg z0, if_neg z]
      exact R4.2.2
  · refine wi_ip (by rw [t01]; exact f1) (wi_ret ?_)
    unfold GX12_change
    exact wi_be isFrame_ok (wi_ip (by rw [t01]; exact f1) (wi_ret ⟨rfl, H⟩))
