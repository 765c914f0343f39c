/-! enter, strike, undo -/
theorem canEnter_ok {d p t : Int} {h : MH} (F : WfF (m_rd h 344)) (E : WfE (m_rd h 344)) : GX12_canEnter d p t h = some (if m_rd h 344 0 = 1 ∧ (0 ≤ d ∧ d ≤ m_rd h 344 2) ∧ (0 ≤ t ∧ t < m_rd h 344 3) ∧ (0 ≤ p ∧ p < pw (m_rd h 344 1) d) ∧ num (m_rd h 344) d p < 12 then 1 else 0, h) := by
  have b := F.b
  unfold GX12_canEnter
  rw [isFrame_ok, bd_some]
  by_cases c1 : m_rd h 344 0 = 1
  · rw [if_pos c1, if_neg (by decide), in_ok, bd_some]
    by_cases c2 : 0 ≤ d ∧ d ≤ m_rd h 344 2
    · rw [if_pos c2, if_neg (by decide), isHole_ok, bd_some]
      by_cases c3 : 0 ≤ t ∧ t < m_rd h 344 3
      · have pb := pw_b (b := m_rd h 344 1) (n := d) (by omega) (by omega) (by omega) (by omega)
        rw [if_pos c3, if_neg (by decide), power_ok (by omega) (by omega) (by omega) (by omega), bd_some, w32_id (by omega) (by omega), in_ok, bd_some]
        by_cases c4 : 0 ≤ p ∧ p < pw (m_rd h 344 1) d
        · rw [if_pos (show 0 ≤ p ∧ p ≤ pw (m_rd h 344 1) d - 1 by omega), if_neg (by decide), numberOf_ok E.1.1 E.1.2, bd_some]
          by_cases c5 : num (m_rd h 344) d p < 12
          · rw [if_pos c5, if_pos ⟨c1, c2, c3, c4, c5⟩]
          · rw [if_neg c5, if_neg (fun z => c5 z.2.2.2.2)]
        · rw [if_neg (show ¬ (0 ≤ p ∧ p ≤ pw (m_rd h 344 1) d - 1) by omega), if_pos rfl, if_neg (fun z => c4 z.2.2.2.1)]
      · rw [if_neg c3, if_pos rfl, if_neg (fun z => c3 z.2.2.1)]
    · rw [if_neg c2, if_pos rfl, if_neg (fun z => c2 z.2.1)]
  · rw [if_neg c1, if_pos rfl, if_neg (fun z => c1 z.1)]
theorem prefixesOf_ok {t d : Int} {S : Int → Int} {h : MH} (R : ShR h t S) (d0 : 0 ≤ d) (d1 : d ≤ 4) : GX8_prefixesOf t d h = some (if S 0 = 1 then pw (S 1) d else 0, h) := by
  unfold GX8_prefixesOf
  rw [if_neg (by omega), if_neg (by omega), gd_ib (by omega) (by omega), gd_nil, R.2.2.2.2.1 d d0 (by omega)]
theorem hasPrefix_ok {t d p : Int} {S : Int → Int} {h : MH} (F : WfF S) (R : ShR h t S) : GX8_hasPrefix t d p h = some (if S 0 = 1 ∧ (0 ≤ d ∧ d ≤ S 2) ∧ (0 ≤ p ∧ p < pw (S 1) d) then 1 else 0, h) := by
  have b := F.b
  unfold GX8_hasPrefix
  rw [R.2.1]
  by_cases c1 : d < 0
  · rw [if_pos c1, if_neg (fun z => by omega)]
  rw [if_neg c1]
  by_cases c2 : S 2 < d
  · rw [if_pos c2, if_neg (fun z => by omega)]
  rw [if_neg c2]
  by_cases c3 : p < 0
  · rw [if_pos c3, if_neg (fun z => by omega)]
  rw [if_neg c3, prefixesOf_ok R (by omega) (by omega), bd_some]
  by_cases c4 : S 0 = 1
  · rw [if_pos c4]
    by_cases c5 : p < pw (S 1) d
    · rw [if_pos c5, if_pos (by omega)]
    · rw [if_neg c5, if_neg (by omega)]
  · rw [if_neg c4, if_neg (by omega), if_neg (by omega)]
theorem canTake_ok {t d p : Int} {S : Int → Int} {h : MH} (R : PlR h t S) (n0 : 0 ≤ S 13) (n13 : S 13 ≤ 12) : GX4_canTake t d p h = some (if num S d p < 12 then 1 else 0, h) := by
  have nf := num_f (S := S) (d := d) (p := p) n0
  unfold GX4_canTake
  rw [R.1]
  by_cases c1 : S 13 < 12
  · rw [if_pos c1, if_pos (by omega)]
  rw [if_neg c1, find_ok R n0 n13, bd_some]
  by_cases c2 : num S d p < S 13
  · rw [if_pos c2, if_neg (by omega), if_pos (by omega)]
  · rw [if_neg c2, if_pos rfl, if_neg (by omega)]
theorem c_enter (d p t : Int) : Call (GX11_enter d p t) (GX12_enter d p t) := by
  intro h H
  obtain ⟨⟨d1, d2, d3, d4, d5, d6, d7⟩, w1, w2, w3, w4, w5, w6, w7⟩ := H.2.2.2.1
  have E := w1.2.1
  have no : ¬ (m_rd h 344 0 = 1 ∧ (0 ≤ d ∧ d ≤ m_rd h 344 2) ∧ (0 ≤ t ∧ t < m_rd h 344 3) ∧ (0 ≤ p ∧ p < pw (m_rd h 344 1) d) ∧ num (m_rd h 344) d p < 12) → Wi (GX12_enter d p t h) (fun w h2 => -1 = w ∧ Inv h2) := by
    intro c
    unfold GX12_enter
    rw [canEnter_ok w1.1 E, bd_some, if_neg c, if_pos rfl]
    exact wi_ret ⟨rfl, H⟩
  unfold GX11_enter
  rw [hasPrefix_ok (t := 21) w1.1 d1, bd_some]
  by_cases c1 : m_rd h 344 0 = 1 ∧ (0 ≤ d ∧ d ≤ m_rd h 344 2) ∧ (0 ≤ p ∧ p < pw (m_rd h 344 1) d)
  · rw [if_pos c1, if_neg (by decide), hasHole_ok (t := 21) d1, bd_some]
    by_cases c2 : 0 ≤ t ∧ t < m_rd h 344 3
    · rw [if_pos c2, if_neg (by decide), canTake_ok (t := 33) d3.2.2.2.1 E.1.1 E.1.2, bd_some]
      by_cases c3 : num (m_rd h 344) d p < 12
      · rw [if_pos c3, if_neg (by decide)]
        obtain ⟨g1, e1, F1, C, R1⟩ := act_rem H
        obtain ⟨g2, e2, F2, R2⟩ := put_ok (t := 33) (x := t) R1.2.2.2.1 E.1.1 E.1.2 c3
        have F2' : Fr (fun x _ => 32 ≤ x ∧ x < 40) g1 g2 := F2.wk (fun a j z => by omega)
        have R2' : WkR g2 32 (enS d p t (m_rd h 344)) := R1.pl R2 (fun a j z1 z2 z3 => F2.rd (by omega)) (fun k k0 k1 k2 => en_o E.1.1 k2 (by have := num_f (S := m_rd h 344) (d := d) (p := p) E.1.1; omega)) w1.2.2.1.1.2
        obtain ⟨g3, e3, F3, M, s2, s3⟩ := act_keep H F1 F2'
        obtain ⟨g4, e4, F4, s4⟩ := enters_ok (h := g3) (d := d) (p := p) (x := t) (by rw [s3]; exact E.1.1) (by rw [s3]; exact E.1.2) (by rw [s3]; exact c3)
        rw [s3] at s4 e4
        refine wi_bw e1 (wi_be e2 (wi_ret ?_))
        unfold GX12_enter
        rw [canEnter_ok (by rw [s2]; exact w1.1) (by rw [s2]; exact E), bd_some, s2, if_neg (by rw [t01]; exact fun z => z ⟨c1.1, c1.2.1, c2, c1.2.2, c3⟩)]
        exact wi_bw e3 (wi_be e4 (wi_ret ⟨rfl, act_fin H F1 C F2' F3 M F4 R2' s4 (en_wf w1 c1.1 c1.2.1.1 c1.2.1.2 c1.2.2.1 c1.2.2.2 c2.1 c2.2 c3)⟩))
      · rw [if_neg c3, if_pos rfl]
        exact wi_ret (no (fun z => c3 z.2.2.2.2))
    · rw [if_neg c2, if_pos rfl]
      exact wi_ret (no (fun z => c2 z.2.2.1))
  · rw [if_neg c1, if_pos rfl]
    exact wi_ret (no (fun z => c1 ⟨z.1, z.2.1, z.2.2.2.1⟩))
/-! strike -/
def stS (e : Int) (S : Int → Int) : Int → Int := fun k => if k = 13 then S 13 - 1 else if 46 + 3 * e ≤ k ∧ k < 46 + 3 * (S 13 - 1) then S (k + 3) else S k
theorem st_o {e : Int} {S : Int → Int} {k : Int} (k1 : k ≠ 13) (k2 : k < 46 + 3 * e ∨ 46 + 3 * (S 13 - 1) ≤ k) : stS e S k = S k := by
  unfold stS
  rw [if_neg k1, if_neg (by omega)]
theorem st_i {e : Int} {S : Int → Int} {k : Int} (k1 : k ≠ 13) (k2 : 46 + 3 * e ≤ k) (k3 : k < 46 + 3 * (S 13 - 1)) : stS e S k = S (k + 3) := by
  unfold stS
  rw [if_neg k1, if_pos ⟨k2, k3⟩]
theorem st_13 {e : Int} {S : Int → Int} : stS e S 13 = S 13 - 1 := if_pos rfl
/-- entry i behind the striking was entry i or i + 1 -/
theorem st_en {e : Int} {S : Int → Int} (e0 : 0 ≤ e) (i : Int) (i0 : 0 ≤ i) (i1 : i < S 13 - 1) : (i < e ∧ stS e S (46 + 3 * i) = S (46 + 3 * i) ∧ stS e S (47 + 3 * i) = S (47 + 3 * i) ∧ stS e S (48 + 3 * i) = S (48 + 3 * i)) ∨ (e ≤ i ∧ stS e S (46 + 3 * i) = S (46 + 3 * (i + 1)) ∧ stS e S (47 + 3 * i) = S (47 + 3 * (i + 1)) ∧ stS e S (48 + 3 * i) = S (48 + 3 * (i + 1))) := by
  by_cases c : i < e
  · exact Or.inl ⟨c, st_o (by omega) (by omega), st_o (by omega) (by omega), st_o (by omega) (by omega)⟩
  · refine Or.inr ⟨by omega, ?_, ?_, ?_⟩
    · rw [st_i (by omega) (by omega) (by omega), show 46 + 3 * i + 3 = 46 + 3 * (i + 1) by omega]
    · rw [st_i (by omega) (by omega) (by omega), show 47 + 3 * i + 3 = 47 + 3 * (i + 1) by omega]
    · rw [st_i (by omega) (by omega) (by omega), show 48 + 3 * i + 3 = 48 + 3 * (i + 1) by omega]
theorem st_wf {B e : Int} {S : Int → Int} (H : Wf B S) (e0 : 0 ≤ e) (e1 : e < S 13) : Wf B (stS e S) := by
  obtain ⟨F, ⟨E1, E2, E3⟩, W, u1, u2, u3⟩ := id H
  have o := fun k => st_o (e := e) (S := S) (k := k)
  refine H.st (fun k z => o k (by omega) (by omega)) ⟨by rw [st_13]; omega, fun i i0 i1 => ?_, fun i j i0 i1 i2 => ?_⟩ (W.sg (fun k z => o k (by omega) (by omega))) ?_ ?_ ?_ (fun z => ?_)
  · rw [st_13] at i1
    rw [o 1 (by omega) (by omega), o 2 (by omega) (by omega), o 3 (by omega) (by omega)]
    rcases st_en e0 i i0 i1 with ⟨a, b, c, d⟩ | ⟨a, b, c, d⟩
    · rw [b, c, d]
      exact E2 i i0 (by omega)
    · rw [b, c, d]
      exact E2 (i + 1) (by omega) (by omega)
  · rw [st_13] at i2
    rcases st_en (S := S) e0 i i0 (by omega) with ⟨a, b, c, d⟩ | ⟨a, b, c, d⟩ <;> rcases st_en (S := S) e0 j (by omega) i2 with ⟨a', b', c', d'⟩ | ⟨a', b', c', d'⟩ <;> rw [b, c, b', c']
    · exact E3 i j i0 i1 (by omega)
    · exact E3 i (j + 1) i0 (by omega) (by omega)
    · exact E3 (i + 1) j (by omega) (by omega) (by omega)
    · exact E3 (i + 1) (j + 1) (by omega) (by omega) (by omega)
  · rw [o 11 (by omega) (by omega)]
    exact u1
  · rw [o 11 (by omega) (by omega), o 10 (by omega) (by omega)]
    exact u2
  · rw [o 10 (by omega) (by omega)]
    exact u3
  · exfalso
    rcases F with q | q
    · omega
    · omega
theorem strike_L {K : MH → Option (Int × MH)} {N : Int} (N0 : N ≤ 12) : ∀ (m f : Nat) (v : Int) (h : MH), m < f → v + m = 3 * N → 0 ≤ v → m_rd h 344 13 = N → ∃ h', GX12_strike_L29 K f v h = K h' ∧ Fr (fun x j => x = 344 ∧ 46 + v ≤ j ∧ j < 46 + 3 * N) h h' ∧ ∀ k, 46 + v ≤ k → k < 46 + 3 * N → m_rd h' 344 k = m_rd h 344 (k + 3) := by
  intro m
  induction m with
  | zero =>
    intro f v h hf hv v0 hn
    obtain ⟨g, rfl⟩ : ∃ g, f = g + 1 := ⟨f - 1, by omega⟩
    conv => enter [1, h', 1, 1]; unfold GX12_strike_L29
    rw [hn, w32_id (by omega) (by omega), if_neg (by omega)]
    exact ⟨h, rfl, Fr.rf, fun k k0 k1 => by omega⟩
  | succ m ih =>
    intro f v h hf hv v0 hn
    obtain ⟨g, rfl⟩ : ∃ g, f = g + 1 := ⟨f - 1, by omega⟩
    conv => enter [1, h', 1, 1]; unfold GX12_strike_L29
    rw [hn, w32_id (x := 3 * N) (by omega) (by omega), if_pos (by omega), w32_id (x := 46 + v) (by omega) (by omega), w32_id (x := 46 + v + 3) (by omega) (by omega), gd_ib (by omega) (by omega), gd_ib (by omega) (by omega), gd_nil, w32_id (x := v + 1) (by omega) (by omega)]
    obtain ⟨h', e, F, q⟩ := ih g (v + 1) (m_wr h 344 (46 + v) (m_rd h 344 (46 + v + 3))) (by omega) (by omega) (by omega) (by rw [rd_ne (by omega)]; exact hn)
    refine ⟨h', e, Fr.tr (Fr.wr Fr.rf ⟨rfl, by omega, by omega⟩) (F.wk (fun a j z => by omega)), fun k k0 k1 => ?_⟩
    by_cases c : k = 46 + v
    · rw [F.rd (by omega), rd_eq rfl c, c]
    · rw [q k (by omega) k1, rd_ne (by omega)]
theorem drop_L {t N : Int} {K : MH → Option MH} (N0 : N ≤ 11) : ∀ (m f : Nat) (v : Int) (h : MH), m < f → v + m = N → 0 ≤ v → m_rd h t 0 = N → ∃ h', GX4_drop_L21 t K f v h = K h' ∧ Fr (fun x j => t + 1 ≤ x ∧ x < t + 4 ∧ v ≤ j ∧ j < N) h h' ∧ ∀ x k, t + 1 ≤ x → x < t + 4 → v ≤ k → k < N → m_rd h' x k = m_rd h x (k + 1) := by
  intro m
  induction m with
  | zero =>
    intro f v h hf hv v0 hn
    obtain ⟨g, rfl⟩ : ∃ g, f = g + 1 := ⟨f - 1, by omega⟩
    conv => enter [1, h', 1, 1]; unfold GX4_drop_L21
    rw [hn, if_neg (by omega)]
    exact ⟨h, rfl, Fr.rf, fun x k x0 x1 k0 k1 => by omega⟩
  | succ m ih =>
    intro f v h hf hv v0 hn
    obtain ⟨g, rfl⟩ : ∃ g, f = g + 1 := ⟨f - 1, by omega⟩
    conv => enter [1, h', 1, 1]; unfold GX4_drop_L21
    simp only [hl]
    rw [hn, if_pos (by omega), w32_id (x := v + 1) (by omega) (by omega), gd_ib (by omega) (by omega), gd_ib (by omega) (by omega), gd_nil, gd_ib (by omega) (by omega), gd_ib (by omega) (by omega), gd_nil, gd_ib (by omega) (by omega), gd_ib (by omega) (by omega), gd_nil]
    obtain ⟨h', e, F, q⟩ := ih g (v + 1) _ (by omega) (by omega) (by omega) (show m_rd (m_wr (m_wr (m_wr h (t + 1) v (m_rd h (t + 1) (v + 1))) (t + 2) v (m_rd (m_wr h (t + 1) v (m_rd h (t + 1) (v + 1))) (t + 2) (v + 1))) (t + 3) v (m_rd (m_wr (m_wr h (t + 1) v (m_rd h (t + 1) (v + 1))) (t + 2) v (m_rd (m_wr h (t + 1) v (m_rd h (t + 1) (v + 1))) (t + 2) (v + 1))) (t + 3) (v + 1))) t 0 = N by simp (disch := omega) only [w32_id, rd_eq, rd_ne, cp_in, cp_out, lc_lt, lc_gt, lc_eq]; exact hn)
    refine ⟨h', e, Fr.tr ?_ (F.wk (fun a j z => by omega)), fun x k x0 x1 k0 k1 => ?_⟩
    · refine ((Fr.rf.wr ?_).wr ?_).wr ?_ <;> omega
    · by_cases c : k = v
      · rw [F.rd (by omega)]
        by_cases c1 : x = t + 1
        · subst c1 c
          simp (disch := omega) only [w32_id, rd_eq, rd_ne, cp_in, cp_out, lc_lt, lc_gt, lc_eq]
        by_cases c2 : x = t + 2
        · subst c2 c
          simp (disch := omega) only [w32_id, rd_eq, rd_ne, cp_in, cp_out, lc_lt, lc_gt, lc_eq]
        · have c3 : x = t + 3 := by omega
          subst c3 c
          simp (disch := omega) only [w32_id, rd_eq, rd_ne, cp_in, cp_out, lc_lt, lc_gt, lc_eq]
      · rw [q x k x0 x1 (by omega) k1]
        simp (disch := omega) only [w32_id, rd_eq, rd_ne, cp_in, cp_out, lc_lt, lc_gt, lc_eq]
theorem drop_ok {t e : Int} {S : Int → Int} {h : MH} (R : PlR h t S) (n13 : S 13 ≤ 12) (e0 : 0 ≤ e) (e1 : e < S 13) : ∃ h', GX4_drop t e h = some h' ∧ Fr (fun y _ => t ≤ y ∧ y < t + 4) h h' ∧ PlR h' t (stS e S) := by
  obtain ⟨r1, r2⟩ := id R
  unfold GX4_drop
  rw [has_ok R, bd_some, if_neg (by rw [t01]; exact fun z => z ⟨e0, e1⟩), r1, w32_id (by omega) (by omega)]
  obtain ⟨h', x, F, q⟩ := drop_L (t := t) (N := S 13 - 1) (K := fun h3 => some h3) (by omega) (S 13 - 1 - e).toNat FU e (m_wr h t 0 (S 13 - 1)) (by unfold FU; omega) (by omega) e0 (by simp (disch := omega) only [w32_id, rd_eq, rd_ne, cp_in, cp_out, lc_lt, lc_gt, lc_eq])
  refine ⟨h', x, Fr.tr (Fr.wr Fr.rf ?_) (F.wk (fun a j z => by omega)), ?_, fun i i0 i1 => ?_⟩
  · omega
  · rw [F.rd (by omega), st_13]
    simp (disch := omega) only [w32_id, rd_eq, rd_ne, cp_in, cp_out, lc_lt, lc_gt, lc_eq]
  · rw [st_13] at i1
    rcases st_en e0 i i0 i1 with ⟨a, b, c, d⟩ | ⟨a, b, c, d⟩
    · rw [b, c, d, F.rd (by omega), F.rd (by omega), F.rd (by omega)]
      simp (disch := omega) only [w32_id, rd_eq, rd_ne, cp_in, cp_out, lc_lt, lc_gt, lc_eq]
      exact r2 i i0 (by omega)
    · rw [b, c, d, q _ _ (by omega) (by omega) (by omega) (by omega), q _ _ (by omega) (by omega) (by omega) (by omega), q _ _ (by omega) (by omega) (by omega) (by omega)]
      simp (disch := omega) only [w32_id, rd_eq, rd_ne, cp_in, cp_out, lc_lt, lc_gt, lc_eq]
      exact r2 (i + 1) (by omega) (by omega)
theorem c_strike (n : Int) : Call (GX11_strike n) (GX12_strike n) := by
  intro h H
  obtain ⟨⟨d1, d2, d3, d4, d5, d6, d7⟩, w1, w2, w3, w4, w5, w6, w7⟩ := H.2.2.2.1
  have E := w1.2.1
  have E1 := E.1
  unfold GX11_strike
  rw [has_ok (t := 33) d3.2.2.2.1, bd_some]
  by_cases c : 0 ≤ n ∧ n < m_rd h 344 13
  · rw [if_pos c, if_neg (by decide)]
    obtain ⟨g1, e1, F1, C, R1⟩ := act_rem H
    obtain ⟨g2, e2, F2, R2⟩ := drop_ok (t := 33) R1.2.2.2.1 E.1.2 c.1 c.2
    have F2' : Fr (fun x _ => 32 ≤ x ∧ x < 40) g1 g2 := F2.wk (fun a j z => by omega)
    have R2' : WkR g2 32 (stS n (m_rd h 344)) := R1.pl R2 (fun a j z1 z2 z3 => F2.rd (by omega)) (fun k k0 k1 k2 => st_o k2 (by omega)) w1.2.2.1.1.2
    obtain ⟨g3, e3, F3, M, s2, s3⟩ := act_keep H F1 F2'
    refine wi_bw e1 (wi_bw e2 (wi_ret ?_))
    unfold GX12_strike
    rw [isEntry_ok, bd_some, s2, if_pos c, if_neg (by decide)]
    refine wi_bw e3 ?_
    rw [s3, w32_id (x := 3 * n) (by omega) (by omega), w32_id (by omega) (by omega)]
    obtain ⟨g4, e4, F4, q4⟩ := strike_L (N := m_rd h 344 13 - 1) (K := fun h4 => some ((m_rd h4 344 13), h4)) (by omega) (3 * (m_rd h 344 13 - 1 - n)).toNat FU (3 * n) (m_wr g3 344 13 (m_rd h 344 13 - 1)) (by unfold FU; omega) (by omega) (by omega) (by simp (disch := omega) only [w32_id, rd_eq, rd_ne, cp_in, cp_out, lc_lt, lc_gt, lc_eq])
    refine wi_eq e4 ?_
    have F4' : Fr (fun x j => x = 344 ∧ 10 ≤ j ∧ j < 82) g3 g4 := Fr.tr (Fr.wr Fr.rf ⟨rfl, by omega, by omega⟩) (F4.wk (fun a j z => by omega))
    have s4 : m_rd g4 344 = stS n (m_rd h 344) := by
      funext k
      unfold stS
      by_cases k1 : k = 13
      · rw [if_pos k1, k1, F4.rd (by omega)]
        simp (disch := omega) only [w32_id, rd_eq, rd_ne, cp_in, cp_out, lc_lt, lc_gt, lc_eq]
      · rw [if_neg k1]
        by_cases k2 : 46 + 3 * n ≤ k ∧ k < 46 + 3 * (m_rd h 344 13 - 1)
        · rw [if_pos k2, q4 k (by omega) (by omega), rd_ne (by omega), s3]
        · rw [if_neg k2, F4.rd (by omega), rd_ne (by omega), s3]
    refine ⟨?_, act_fin H F1 C F2' F3 M F4' R2' s4 (st_wf w1 c.1 c.2)⟩
    rw [s4]
    exact R2.1
  · rw [if_neg c, if_pos rfl]
    refine wi_ret ?_
    unfold GX12_strike
    rw [isEntry_ok, bd_some, if_neg c, if_pos rfl]
    exact wi_ret ⟨rfl, H⟩
