/-! RULE: the text read by the class -/
def RtF (a j : Int) : Prop := (a = 1 ∧ (j = 2 ∨ j = 3)) ∨ (a = 15 ∧ (j = 2 ∨ j = 5 ∨ j = 6)) ∨ a = 16 ∨ a = 17 ∨ a = 18
theorem RuF.rt {a j : Int} (z : RuF a j) : RtF a j := by
  unfold RuF at z
  unfold RtF
  omega
theorem F123.rt {a j : Int} (z : F123 a j) : RtF a j := z.ruf.rt
def InR (h : MH) (B : Int → Int) (n c : Int) (x : RST) (se te : Int → Int) : Prop := CRu h B n x ∧ OkR n x ∧ m_rd h 17 = se ∧ m_rd h 18 = te ∧ m_rd h 15 5 = c
def EndR (h : MH) (v : Int) (R : RAL) : Prop := match R with
  | .inl f => v = f ∧ 0 < f
  | .inr r => v = 0 ∧ m_rd h 15 5 = r.1 ∧ m_rd h 15 2 = r.2.1.2.1 ∧ m_rd h 16 = r.2.1.2.2.2 ∧ m_rd h 17 = r.2.2.1 ∧ m_rd h 18 = r.2.2.2
theorem if_bd {T : Option (Int × MH)} {U K0 K1 : MH → Option (Int × MH)} : bd T (fun x h => if x = 0 then K1 h else bd (U h) (fun y g => if y = 0 then K0 g else K1 g)) = bd (bd T (fun x h => if x = 0 then some (1, h) else U h)) (fun y g => if y = 0 then K0 g else K1 g) := by
  cases T with
  | none => rfl
  | some r =>
    rw [bd_some, bd_some]
    by_cases c : r.1 = 0
    · rw [if_pos c, if_pos c, bd_some, if_neg (by decide)]
    · rw [if_neg c, if_neg c]
theorem rd_row {P : Int → Int → Prop} {h h' : MH} {a : Int} (F : Fr P h h') (n : ∀ j, ¬ P a j) : m_rd h' a = m_rd h a := funext (fun j => F.rd (n j))
theorem wr_row {h : MH} {a i v : Int} : m_rd (m_wr h a i v) a = ups (m_rd h a) i v := by
  funext j
  by_cases c : j = i
  · rw [rd_eq rfl c, up_eq c]
  · rw [rd_ne (Or.inr c), up_k c]
/-- one clause, what stands before it and behind it -/
theorem rstepC {B : Int → Int} {n c : Int} {x : RST} {se te : Int → Int} {h : MH} {m q : Nat} (b : BB B n) (c0 : 0 ≤ c) (c1 : c ≤ 12) (I : InR h B n c x se te)
    (ih : c < 12 → ∀ (x : RST) (se te : Int → Int) (h : MH), InR h B n (c + 1) x se te → ∃ v h', GX6_parse_L26 (fun h2 => some ((m_rd h2 1 3), h2)) (q + 1) 1 (c + 1) h = some (v, h') ∧ Fr RtF h h' ∧ EndR h' v (rpa B n m (c + 1) x se te)) :
    ∃ v h', GX6_parse_L26 (fun h2 => some ((m_rd h2 1 3), h2)) (q + 1 + 1) 1 c h = some (v, h') ∧ Fr RtF h h' ∧ EndR h' v (rpa B n (m + 1) c x se te) := by
  obtain ⟨C, o, s1, s2, s3⟩ := I
  have b1 := b.2.1
  have p0 := o.1.1
  have o2 := o.2.1
  have o5 := o.1.2.2.1
  have sb := sk_b (B := B) b.2.1 o.1.1 o.1.2.1
  have stop : ∀ g, GX6_parse_L26 (fun h2 => some ((m_rd h2 1 3), h2)) (q + 1) 0 (m_w32 (c + 1)) g = some (m_rd g 1 3, g) := fun g => by
    conv => lhs; unfold GX6_parse_L26
    by_cases z : 12 < m_w32 (c + 1)
    · rw [if_pos z]
    · rw [if_neg z, if_pos rfl]
  have re : rpa B n (m + 1) c x se te = if dec (wdp B n (sk B n x.1) (-14)) = true then (if c < 12 then (match rcl B n (mvp (sk B n x.1 + 4) x) with
      | .inl f => .inl f
      | .inr u => if bya B n (sk B n u.2.1) = -1 then .inr (c + 1, mvp (sk B n u.2.1) u.2, ups se c u.1.2.1, ups te c u.2.2.1) else if bya B n (sk B n u.2.1) = 59 then rpa B n m (c + 1) (mvp (sk B n u.2.1 + 1) u.2) (ups se c u.1.2.1) (ups te c u.2.2.1) else .inl (1 + 8 * sk B n u.2.1 + 0)) else .inl (1 + 8 * sk B n x.1 + 4)) else .inl (1 + 8 * sk B n x.1 + 0) := rfl
  rw [re]
  obtain ⟨h1, e1, F1, C1⟩ := nextCR b C o.1
  have a1 : m_rd h1 1 2 = sk B n x.1 := C1.1.2.1
  have o1 : OkS n (mvp (sk B n x.1) x) := ⟨by show (0 : Int) ≤ sk B n x.1; omega, sb.2, o.1.2.2.1, o.1.2.2.2⟩
  obtain ⟨v, h2, e2, F2, y2, n2⟩ := wordCR b C1 o1 wd_14
  have ss : sk B n (mvp (sk B n x.1) x).1 = sk B n x.1 := sk_i b.2.1 o.1.1
  rw [ss] at y2 n2
  have F12' : Fr RtF h h2 := (F1.wk (fun _ _ z => z.rt)).tr (F2.wk (fun _ _ z => z.rt))
  conv => enter [1, v, 1, h', 1, 1]; unfold GX6_parse_L26
  simp only [jn, if_true]
  rw [if_neg (show ¬ 12 < c by omega), if_neg (show ¬ (1 : Int) = 0 by decide), e1, bd_some, e2, bd_some, a1]
  have bad : ∀ k, 0 ≤ k → k ≤ 4 → m_rd h2 1 3 = 0 → ∃ v h', bd (GX9_fail (sk B n x.1) k h2) (fun x24 h23 => if (1 : Int) = 0 then GX6_parse_L26 (fun h2 => some ((m_rd h2 1 3), h2)) (q + 1) 0 (m_w32 (c + 1)) h23 else if m_rd h23 1 3 = 0 then bd (GX9_takeSemicolon h23) (fun x9 h8 => if x9 = 0 then GX6_parse_L26 (fun h2 => some ((m_rd h2 1 3), h2)) (q + 1) 0 (m_w32 (c + 1)) h8 else GX6_parse_L26 (fun h2 => some ((m_rd h2 1 3), h2)) (q + 1) 1 (m_w32 (c + 1)) h8) else GX6_parse_L26 (fun h2 => some ((m_rd h2 1 3), h2)) (q + 1) 0 (m_w32 (c + 1)) h23) = some (v, h') ∧ Fr RtF h h' ∧ EndR h' v (.inl (1 + 8 * sk B n x.1 + k)) := fun k k0 k1 z => by
    rw [failC (by omega) (by omega) k0 k1 z, bd_some, if_neg (show ¬ (1 : Int) = 0 by decide), rd_eq rfl rfl, if_neg (by omega), stop]
    exact ⟨_, _, rfl, Fr.wr F12' (Or.inl ⟨rfl, Or.inr rfl⟩), rd_eq rfl rfl, by omega⟩
  by_cases w : wdp B n (sk B n x.1) (-14)
  · obtain ⟨v1, C2⟩ := y2 w
    rw [show t_len (-14) = 4 by decide] at C2
    have we := wd_end b wd_14 (by omega) sb.2 w
    rw [show t_len (-14) = 4 by decide] at we
    rw [if_neg (show ¬ v = 0 by omega), if_pos (dec_t w)]
    by_cases c2 : c < 12
    · have o4 : OkT n (mvp (sk B n x.1 + 4) x) := ⟨⟨by show (0 : Int) ≤ sk B n x.1 + 4; omega, by show sk B n x.1 + 4 ≤ n; omega, o.1.2.2.1, o.1.2.2.2⟩, by show x.2.1 < sk B n x.1 + 4; omega, o.2.2⟩
      have C2' : CRu h2 B n (mvp (sk B n x.1 + 4) x) := C2
      rw [if_pos c2, if_pos c2]
      obtain ⟨w3, h3, e3, F3, r3⟩ := sumC b C2' o4
      have F3' : Fr RtF h h3 := F12'.tr (F3.wk (fun _ _ z => z.rt))
      rw [e3, bd_some]
      unfold rcl
      cases hv : smm B n (mvp (sk B n x.1 + 4) x) with
      | inl f =>
        rw [hv] at r3
        obtain ⟨r31, r32, r33⟩ := r3
        rw [if_pos r31, if_neg (show ¬ (1 : Int) = 0 by decide), if_neg (by omega), stop]
        exact ⟨_, _, rfl, F3', r32, r33⟩
      | inr y =>
        rw [hv] at r3
        obtain ⟨r31, C3⟩ := r3
        have oy := (smm_Q b o4.1 hv).okt o4
        have sy := sk_b (B := B) b.2.1 oy.1.1 oy.1.2.1
        have y0 := oy.1.1
        have y1 := oy.2.1
        have F4 : Fr (fun a _ => a = 17) h3 (m_wr h3 17 c y.2.1) := Fr.wr Fr.rf rfl
        have C4 : CRu (m_wr h3 17 c y.2.1) B n y := by
          obtain ⟨q1, q2, q3, q4⟩ := C3
          refine ⟨q1.fr F4 (fun a j z => by omega), ?_, ?_, ?_⟩
          · rw [F4.rd (by omega)]
            exact q2
          · rw [F4.rd (by omega)]
            exact q3
          · rw [rd_row F4 (fun j => by omega)]
            exact q4
        have g17 : m_rd (m_wr h3 17 c y.2.1) 17 = ups se c y.2.1 := by
          rw [wr_row, rd_row F3 (fun j => by unfold RuF; omega), rd_row F2 (fun j => by unfold F123; omega), rd_row F1 (fun j => by unfold F123; omega), s1]
        have g18 : m_rd (m_wr h3 17 c y.2.1) 18 = te := by
          rw [rd_row F4 (fun j => by omega), rd_row F3 (fun j => by unfold RuF; omega), rd_row F2 (fun j => by unfold F123; omega), rd_row F1 (fun j => by unfold F123; omega), s2]
        have F4' : Fr RtF h (m_wr h3 17 c y.2.1) := Fr.wr F3' (by unfold RtF; omega)
        obtain ⟨v5, h5, e5, F5, r5⟩ := ifC b C4 oy
        rw [if_neg (show ¬ w3 = 0 by omega), gd_ib c0 c2, gd_nil, C3.2.1]
        rw [if_bd]
        rw [e5, bd_some]
        have F5' : Fr RtF h h5 := F4'.tr (F5.wk (fun _ _ z => z.rt))
        show ∃ v h', _ ∧ Fr RtF h h' ∧ EndR h' v (match (match rif B n y with
          | .inl f => .inl f
          | .inr z => .inr (y, z) : Int ⊕ (RST × RST)) with
          | .inl f => .inl f
          | .inr u => if bya B n (sk B n u.2.1) = -1 then .inr (c + 1, mvp (sk B n u.2.1) u.2, ups se c u.1.2.1, ups te c u.2.2.1) else if bya B n (sk B n u.2.1) = 59 then rpa B n m (c + 1) (mvp (sk B n u.2.1 + 1) u.2) (ups se c u.1.2.1) (ups te c u.2.2.1) else .inl (1 + 8 * sk B n u.2.1 + 0))
        cases hz : rif B n y with
        | inl f =>
          rw [hz] at r5
          obtain ⟨r51, r52, r53⟩ := r5
          rw [if_pos r51, gd_ib c0 c2, gd_nil, stop]
          exact ⟨_, _, rfl, Fr.wr (Fr.wr F5' (by unfold RtF; omega)) (by unfold RtF; omega), by rw [rd_a (by decide), rd_a (by decide)]; exact r52, r53⟩
        | inr z =>
          rw [hz] at r5
          obtain ⟨r51, C5⟩ := r5
          have oz : OkT n z := by
            rcases rif_Q b oy.1 hz with ⟨z1, _⟩ | z1
            · rw [z1]
              exact ⟨⟨by show (0 : Int) ≤ sk B n y.1; omega, sy.2, oy.1.2.2.1, oy.1.2.2.2⟩, by show y.2.1 < sk B n y.1; omega, oy.2.2⟩
            · exact z1.okt oy
          have sz := sk_b (B := B) b.2.1 oz.1.1 oz.1.2.1
          have z0 := oz.1.1
          have z1 := oz.2.1
          have z2 := C5.1.2.2.1
          rw [if_neg (show ¬ v5 = 0 by omega), gd_ib c0 c2, gd_nil, if_neg (show ¬ (1 : Int) = 0 by decide), C5.2.1, w32_id (x := c + 1) (by omega) (by omega)]
          rw [w32_id (x := c + 1) (by omega) (by omega)] at stop
          have F6 : Fr (fun a j => a = 18 ∨ (a = 15 ∧ j = 5)) h5 (m_wr (m_wr h5 18 c z.2.1) 15 5 (c + 1)) := Fr.wr (Fr.wr Fr.rf (by omega)) (by omega)
          have C6 : CRu (m_wr (m_wr h5 18 c z.2.1) 15 5 (c + 1)) B n z := by
            obtain ⟨q1, q2, q3, q4⟩ := C5
            refine ⟨q1.fr F6 (fun a j z => by omega), ?_, ?_, ?_⟩
            · rw [F6.rd (by omega)]
              exact q2
            · rw [F6.rd (by omega)]
              exact q3
            · rw [rd_row F6 (fun j => by omega)]
              exact q4
          have k17 : m_rd (m_wr (m_wr h5 18 c z.2.1) 15 5 (c + 1)) 17 = ups se c y.2.1 := by
            rw [rd_row F6 (fun j => by omega), rd_row F5 (fun j => by unfold RuF; omega), g17]
          have k18 : m_rd (m_wr (m_wr h5 18 c z.2.1) 15 5 (c + 1)) 18 = ups te c z.2.1 := by
            rw [show m_rd (m_wr (m_wr h5 18 c z.2.1) 15 5 (c + 1)) 18 = m_rd (m_wr h5 18 c z.2.1) 18 from funext (fun j => rd_a (by decide)), wr_row, rd_row F5 (fun j => by unfold RuF; omega), g18]
          have k15 : m_rd (m_wr (m_wr h5 18 c z.2.1) 15 5 (c + 1)) 15 5 = c + 1 := rd_eq rfl rfl
          have F6' : Fr RtF h (m_wr (m_wr h5 18 c z.2.1) 15 5 (c + 1)) := F5'.tr (F6.wk (fun a j z => by unfold RtF; omega))
          generalize m_wr (m_wr h5 18 c z.2.1) 15 5 (c + 1) = g at C6 k17 k18 k15 F6' ⊢
          rw [if_pos C6.1.2.2.1]
          obtain ⟨t, h7, e7, F7, t1, t2, t3⟩ := semiC b C6.1
          have l17 : m_rd h7 17 = ups se c y.2.1 := by rw [rd_row F7 (fun j => by unfold F123; omega), k17]
          have l18 : m_rd h7 18 = ups te c z.2.1 := by rw [rd_row F7 (fun j => by unfold F123; omega), k18]
          have l15 : m_rd h7 15 5 = c + 1 := by rw [F7.rd (by unfold F123; omega), k15]
          have F7' : Fr RtF h h7 := F6'.tr (F7.wk (fun _ _ z => z.rt))
          rw [e7, bd_some]
          show ∃ v h', _ ∧ Fr RtF h h' ∧ EndR h' v (if bya B n (sk B n z.1) = -1 then .inr (c + 1, mvp (sk B n z.1) z, ups se c y.2.1, ups te c z.2.1) else if bya B n (sk B n z.1) = 59 then rpa B n m (c + 1) (mvp (sk B n z.1 + 1) z) (ups se c y.2.1) (ups te c z.2.1) else .inl (1 + 8 * sk B n z.1 + 0))
          by_cases k1 : bya B n (sk B n z.1) = -1
          · obtain ⟨u0, C7⟩ := t1 k1
            rw [if_pos u0, if_pos k1, stop]
            have C7' := C6.mv F7 C7
            exact ⟨_, _, rfl, F7', C7.2.2.1, l15, C7'.2.1, C7'.2.2.2, l17, l18⟩
          · rw [if_neg k1]
            by_cases k2 : bya B n (sk B n z.1) = 59
            · obtain ⟨u0, C7⟩ := t2 k2
              rw [if_neg (show ¬ t = 0 by omega), if_pos k2]
              have zn : sk B n z.1 < n := by
                by_cases y : sk B n z.1 < n
                · exact y
                · exact absurd (bya_o (by omega)) k1
              obtain ⟨v8, h8, e8, F8, r8⟩ := ih c2 (mvp (sk B n z.1 + 1) z) (ups se c y.2.1) (ups te c z.2.1) h7 ⟨C6.mv F7 C7, ⟨⟨by show (0 : Int) ≤ sk B n z.1 + 1; omega, by show sk B n z.1 + 1 ≤ n; omega, oz.1.2.2.1, oz.1.2.2.2⟩, by show z.2.1 ≤ sk B n z.1 + 1; omega, oz.2.2⟩, l17, l18, l15⟩
              exact ⟨v8, h8, e8, F7'.tr F8, r8⟩
            · obtain ⟨u0, f7⟩ := t3 k1 k2
              rw [if_pos u0, if_neg k2, stop]
              exact ⟨_, _, rfl, F7', f7, by omega⟩
    · rw [if_neg c2, if_neg c2]
      exact bad 4 (by omega) (by omega) C2.1.2.2.1
  · obtain ⟨v0, C2⟩ := n2 w
    rw [if_pos v0, if_neg (show ¬ dec (wdp B n (sk B n x.1) (-14)) = true by rw [dec_f w]; decide)]
    exact bad 0 (by omega) (by omega) C2.1.2.2.1
theorem rparC_L {B : Int → Int} {n : Int} (b : BB B n) : ∀ (m q : Nat) (c : Int) (x : RST) (se te : Int → Int) (h : MH), m ≤ q → c + m = 12 → 0 ≤ c → InR h B n c x se te → ∃ v h', GX6_parse_L26 (fun h2 => some ((m_rd h2 1 3), h2)) (q + 1 + 1) 1 c h = some (v, h') ∧ Fr RtF h h' ∧ EndR h' v (rpa B n (m + 1) c x se te) := by
  intro m
  induction m with
  | zero => exact fun q c x se te h hq hc c0 I => rstepC b c0 (by omega) I (fun z => by omega)
  | succ m ih =>
    intro q c x se te h hq hc c0 I
    obtain ⟨k, rfl⟩ : ∃ k, q = k + 1 := ⟨q - 1, by omega⟩
    exact rstepC b c0 (by omega) I (fun _ x se te h I => ih k (c + 1) x se te h (by omega) (by omega) (by omega) I)
/-- the class's reader of a RULE -/
theorem rparseC {B : Int → Int} {n : Int} {h : MH} (b : BB B n) (T : TpC h B n) : ∃ v h', GX6_parse h = some (v, h') ∧ Fr RtF h h' ∧ EndR h' v (rpa B n 13 0 (0, 0, 0, m_rd h 16) (m_rd h 17) (m_rd h 18)) := by
  unfold GX6_parse GX9_rewind
  rw [bv_some]
  have F : Fr RtF h (m_wr (m_wr (m_wr (m_wr (m_wr h 1 2 0) 1 3 0) 15 2 0) 15 5 0) 15 6 0) := Fr.wr (Fr.wr (Fr.wr (Fr.wr (Fr.wr Fr.rf (by unfold RtF; omega)) (by unfold RtF; omega)) (by unfold RtF; omega)) (by unfold RtF; omega)) (by unfold RtF; omega)
  have F' : Fr (fun a j => (a = 1 ∧ (j = 2 ∨ j = 3)) ∨ a = 15) h (m_wr (m_wr (m_wr (m_wr (m_wr h 1 2 0) 1 3 0) 15 2 0) 15 5 0) 15 6 0) := Fr.wr (Fr.wr (Fr.wr (Fr.wr (Fr.wr Fr.rf (by omega)) (by omega)) (by omega)) (by omega)) (by omega)
  obtain ⟨v, h', e', F2, r⟩ := rparC_L b 12 1998 0 (0, 0, 0, m_rd h 16) (m_rd h 17) (m_rd h 18) (m_wr (m_wr (m_wr (m_wr (m_wr h 1 2 0) 1 3 0) 15 2 0) 15 5 0) 15 6 0) (by decide) (by decide) (by decide) ⟨⟨⟨T.fr F' (fun a j z => by omega), by rw [rd_ne (by omega), rd_ne (by omega), rd_ne (by omega), rd_ne (by omega), rd_eq rfl rfl], by rw [rd_ne (by omega), rd_ne (by omega), rd_ne (by omega), rd_eq rfl rfl], Int.le_refl _, b.1⟩, by rw [rd_ne (by omega), rd_ne (by omega), rd_eq rfl rfl], rd_eq rfl rfl, rd_row F' (fun j => by omega)⟩, ⟨⟨Int.le_refl _, b.1, Int.le_refl _, by show (0 : Int) ≤ 60; decide⟩, Int.le_refl _, Int.le_refl _⟩, rd_row F' (fun j => by omega), rd_row F' (fun j => by omega), by rw [rd_ne (by omega), rd_eq rfl rfl]⟩
  exact ⟨v, h', e', F.tr F2, r⟩
