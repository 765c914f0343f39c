/-! A TURN of the class -/
def KeepR (h g : MH) : Prop := g.1 = h.1 ∧ g.2.1 = h.2.1 ∧ ∀ a j, RdR a j → m_rd g a j = m_rd h a j
theorem KeepR.rf {h : MH} : KeepR h h := ⟨rfl, rfl, fun _ _ _ => rfl⟩
theorem KeepR.tr {h g k : MH} (a : KeepR h g) (b : KeepR g k) : KeepR h k := ⟨b.1.trans a.1, b.2.1.trans a.2.1, fun x j z => (b.2.2 x j z).trans (a.2.2 x j z)⟩
theorem Fr.kr {P : Int → Int → Prop} {h g : MH} (F : Fr P h g) (n : ∀ a j, P a j → ¬ RdR a j) : KeepR h g := ⟨F.1, F.2.1, fun a j z => F.2.2 a j (fun w => n a j w z)⟩
def WX (W : (Int → Int) → Int) : Prop := ∀ w w' : Int → Int, (∀ i, 0 ≤ i → i < 11 → w i = w' i) → W w = W w'
/-- what a rule of the class does; none: no rule -/
def RwC (h : MH) (r : Int) (o : WF) : Prop := match o with
  | none => r = -1
  | some W => (359 ≤ r ∧ r % 5 = 4 ∧ TO h r 5) ∧ WX W ∧ ∀ g, KeepR h g → ∃ g', GX5_worth r 322 g = some (W (m_rd g 322), g') ∧ Fr (fun a _ => a = r + 1) g g'
/-- what a rule of the reference does -/
def RwM (h : MH) (k : Int) (o : WF) : Prop := match o with
  | none => k < 0
  | some W => (0 ≤ k ∧ k < 6) ∧ WX W ∧ ∀ g, KeepR h g → ∃ g', GX12_summedBy k g = some (W (m_rd g 343), g') ∧ Fr (fun a j => a = 342 ∨ (a = 334 ∧ j = 18)) g g'
theorem RwC.kr {h g : MH} {r : Int} {o : WF} (R : RwC h r o) (k : KeepR h g) : RwC g r o := by
  cases o with
  | none => exact R
  | some W =>
    obtain ⟨⟨a1, a2, a3⟩, b, c⟩ := R
    refine ⟨⟨a1, a2, ?_⟩, b, fun x kx => c x (k.tr kx)⟩
    unfold TO m_kd at *
    rw [k.1, k.2.1]
    exact a3
theorem RwM.kr {h g : MH} {r : Int} {o : WF} (R : RwM h r o) (k : KeepR h g) : RwM g r o := by
  cases o with
  | none => exact R
  | some W => exact ⟨R.1, R.2.1, fun x kx => R.2.2 x (k.tr kx)⟩
/-- the runner as a row tells it -/
def RuR (h : MH) (S : Int → Int) : Prop := ShR h 311 S ∧ WkR h 314 S ∧ ChR h 311 315 S ∧ h.2.1 321 = (1, 6)
def ScC (a _j : Int) : Prop := a = 322 ∨ (359 ≤ a ∧ a % 5 = 0)
def StC (a j : Int) : Prop := (314 ≤ a ∧ a < 323) ∨ (a = 310 ∧ j = 5) ∨ (359 ≤ a ∧ a % 5 = 0)
theorem ChR.cg {h h' : MH} {t1 t2 : Int} {S : Int → Int} {P : Int → Int → Prop} (C : ChR h t1 t2 S) (F : Fr P h h') (n : ∀ a j, P a j → a ≠ 298 ∧ a ≠ 306) : ChR h' t1 t2 S := by
  obtain ⟨b1, b2, b3, b4, b5⟩ := C
  refine ⟨?_, ?_, b3.fr F, b4.fr F, fun c c0 c1 => ?_⟩
  · rw [F.rd (fun z => (n _ _ z).1 rfl)]
    exact b1
  · rw [F.rd (fun z => (n _ _ z).1 rfl)]
    exact b2
  · rw [F.rd (fun z => (n _ _ z).2 rfl)]
    exact b5 c c0 c1
theorem ChR.sg {h : MH} {t1 t2 : Int} {S S' : Int → Int} (C : ChR h t1 t2 S) (n : S 13 ≤ 12) (e0 : S' 0 = S 0) (e1 : S' 1 = S 1) (e2 : S' 2 = S 2) (e13 : S' 13 = S 13) (e : ∀ i, 0 ≤ i → i < S 13 → S' (46 + 3 * i) = S (46 + 3 * i) ∧ S' (47 + 3 * i) = S (47 + 3 * i)) : ChR h t1 t2 S' := by
  obtain ⟨b1, b2, b3, b4, b5⟩ := C
  refine ⟨b1, b2, b3, b4, fun c c0 c1 => ?_⟩
  rw [cod_sg e0 e1 e2] at c1
  rw [b5 c c0 c1, ent_sg n e1 e2 e13 e]
theorem RuR.cg {h h' : MH} {S : Int → Int} {P : Int → Int → Prop} (R : RuR h S) (F : Fr P h h') (n : ∀ a j, P a j → a ≠ 298 ∧ a ≠ 306 ∧ (a < 311 ∨ 322 ≤ a)) : RuR h' S := by
  obtain ⟨a1, a2, a3, a4⟩ := R
  refine ⟨a1.cg (fun a j z1 z2 => F.rd (fun z => ?_)), a2.cg (fun a j z1 z2 => F.rd (fun z => ?_)), a3.cg F (fun a j z => ⟨(n a j z).1, (n a j z).2.1⟩), by rw [F.2.1]; exact a4⟩
  · have := n a j z
    omega
  · have := n a j z
    omega
section
variable {S : Int → Int} {p : Int}
theorem wrd_0 : wrd S p 0 = p := by simp [wrd]
theorem wrd_1 : wrd S p 1 = S (26 + p) := by simp [wrd]
theorem wrd_2 : wrd S p 2 = prf S (S (26 + p)) 1 := by simp [wrd]
theorem wrd_3 : wrd S p 3 = S (26 + p) % S 1 := by simp [wrd]
theorem wrd_4 : wrd S p 4 = hol S (S (26 + p)) := by simp [wrd]
theorem wrd_5 : wrd S p 5 = (if hol S (S (26 + p)) < 0 then 0 else S (14 + hol S (S (26 + p)))) := by simp [wrd]
theorem wrd_6 : wrd S p 6 = (if hol S (S (26 + p)) < 0 then 0 else S (82 + hol S (S (26 + p)))) := by simp [wrd]
theorem wrd_7 : wrd S p 7 = (if ent S (S (26 + p)) < 0 then 0 else S (46 + 3 * ent S (S (26 + p)))) := by simp [wrd]
theorem wrd_8 : wrd S p 8 = S 12 := by simp [wrd]
theorem wrd_9 : wrd S p 9 = sm6 S 20 := by simp [wrd]
theorem wrd_10 : wrd S p 10 = S 10 := by simp [wrd]
end
theorem dg_first {S : Int → Int} {c : Int} (F : WfF S) (f1 : S 0 = 1) (c0 : 0 ≤ c) (c1 : c < cod S) : c / pw (S 1) (S 2 - 1 - 0) % S 1 = prf S c 1 := by
  have fw := frw F f1
  have pp := pw_p (b := S 1) (n := S 2 - 1) (by omega)
  have hc : cod S = pw (S 1) (S 2) := by
    unfold cod
    rw [if_pos f1]
  have ps := pw_s (b := S 1) (n := S 2 - 1) (by omega)
  rw [show S 2 - 1 + 1 = S 2 by omega] at ps
  unfold prf
  rw [Int.sub_zero]
  refine Int.emod_eq_of_lt (Int.ediv_nonneg c0 (by omega)) ?_
  rw [Int.ediv_lt_iff_lt_mul (by omega), Int.mul_comm]
  omega
theorem dg_last {S : Int → Int} {c : Int} : c / pw (S 1) (S 2 - 1 - (S 2 - 1)) % S 1 = c % S 1 := by
  rw [show S 2 - 1 - (S 2 - 1) = 0 by omega, pw_0, Int.ediv_one]
theorem describe_ok {B p : Int} {S : Int → Int} {h : MH} (R : RuR h S) (H : Wf B S) (p0 : 0 ≤ p) (p1 : p < S 12) : Wv (GX7_describe p h) (fun h' => Fr (fun a j => a = 322 ∧ 0 ≤ j ∧ j < 8) h h' ∧ ∀ i, 0 ≤ i → i < 8 → m_rd h' 322 i = wrd S p i) := by
  obtain ⟨R1, R2, C, KD1⟩ := R
  obtain ⟨F, E, ⟨W1, W2, W3⟩, t1, t2, t3⟩ := id H
  have f1 := fr12 H (by omega)
  have fw := frw F f1
  have n13 := E.1
  obtain ⟨c0, c1⟩ := W3 p p0 p1
  have cb := cod_b F
  have eb := ent_b (c := S (26 + p)) E
  have hb := hol_b (c := S (26 + p)) E
  have er : m_rd h 319 p = S (26 + p) := R2.2.2.2.2.2.2 p p0 p1
  unfold GX7_describe
  refine wv_ib p0 (by omega) (wv_gn ?_)
  rw [er]
  refine wv_be (entryFor_ok F E C R1 R2.2.2.2.1) ?_
  rw [if_pos ⟨c0, c1⟩]
  have RA : ShR (m_wr (m_wr h 322 0 p) 322 1 (S (26 + p))) 311 S := R1.cg (fun a j z1 z2 => by simp (disch := omega) only [w32_id, rd_eq, rd_ne, cp_in, cp_out, lc_lt, lc_gt, lc_eq])
  have RB : ∀ x, ShR (m_wr (m_wr (m_wr h 322 0 p) 322 1 (S (26 + p))) 322 2 x) 311 S := fun x => R1.cg (fun a j z1 z2 => by simp (disch := omega) only [w32_id, rd_eq, rd_ne, cp_in, cp_out, lc_lt, lc_gt, lc_eq])
  refine wv_jn ?_
  by_cases q : ent S (S (26 + p)) < 0
  · have hq : hol S (S (26 + p)) = -1 := hb.2.1.2 (by omega)
    refine wv_ip (by omega) (wv_jn (wv_ip rfl ?_))
    refine wv_be (digitOf_C RA F f1 c0 c1 (by omega) (by omega)) ?_
    rw [(RB _).2.1, w32_id (x := S 2 - 1) (by omega) (by omega)]
    refine wv_be (digitOf_C (RB _) F f1 c0 c1 (by omega) (by omega)) ?_
    rw [dg_first F f1 c0 c1, dg_last]
    refine wv_jn (wv_ip rfl (wv_jn (wv_ip rfl (wv_ip rfl (wv_ret ⟨?_, fun i i0 i1 => ?_⟩)))))
    · refine (((((((Fr.rf.wr ?_).wr ?_).wr ?_).wr ?_).wr ?_).wr ?_).wr ?_).wr ?_ <;> omega
    · have hi : i = 0 ∨ i = 1 ∨ i = 2 ∨ i = 3 ∨ i = 4 ∨ i = 5 ∨ i = 6 ∨ i = 7 := by omega
      rcases hi with rfl | rfl | rfl | rfl | rfl | rfl | rfl | rfl
      · rw [wrd_0]
        simp (disch := omega) only [w32_id, rd_eq, rd_ne, cp_in, cp_out, lc_lt, lc_gt, lc_eq]
      · rw [wrd_1]
        simp (disch := omega) only [w32_id, rd_eq, rd_ne, cp_in, cp_out, lc_lt, lc_gt, lc_eq]
      · rw [wrd_2]
        simp (disch := omega) only [w32_id, rd_eq, rd_ne, cp_in, cp_out, lc_lt, lc_gt, lc_eq]
      · rw [wrd_3]
        simp (disch := omega) only [w32_id, rd_eq, rd_ne, cp_in, cp_out, lc_lt, lc_gt, lc_eq]
      · rw [wrd_4, hq]
        simp (disch := omega) only [w32_id, rd_eq, rd_ne, cp_in, cp_out, lc_lt, lc_gt, lc_eq]
      · rw [wrd_5, hq]
        simp (disch := omega) only [w32_id, rd_eq, rd_ne, cp_in, cp_out, lc_lt, lc_gt, lc_eq]
        rfl
      · rw [wrd_6, hq]
        simp (disch := omega) only [w32_id, rd_eq, rd_ne, cp_in, cp_out, lc_lt, lc_gt, lc_eq]
        rfl
      · rw [wrd_7, if_pos q]
        simp (disch := omega) only [w32_id, rd_eq, rd_ne, cp_in, cp_out, lc_lt, lc_gt, lc_eq]
  · have hh : ¬ hol S (S (26 + p)) < 0 := by omega
    have hh2 := hb.2.2 (by omega)
    obtain ⟨q1, q2, q3⟩ := R2.2.2.2.1.2 (ent S (S (26 + p))) (by omega) eb.2.1
    have he : S (48 + 3 * ent S (S (26 + p))) = hol S (S (26 + p)) := by
      unfold hol
      rw [if_neg q]
    have q3' : m_rd h 318 (ent S (S (26 + p))) = hol S (S (26 + p)) := by
      rw [← he]
      exact q3
    refine wv_in (by omega) (wv_jn (wv_in (by decide) (wv_ib (by omega) (by omega) (wv_gn ?_))))
    rw [q3']
    refine wv_be (digitOf_C RA F f1 c0 c1 (by omega) (by omega)) ?_
    rw [(RB _).2.1, w32_id (x := S 2 - 1) (by omega) (by omega)]
    refine wv_be (digitOf_C (RB _) F f1 c0 c1 (by omega) (by omega)) ?_
    rw [dg_first F f1 c0 c1, dg_last]
    refine wv_jn (wv_in (by decide) (wv_ib (by omega) (by omega) (wv_gn (wv_jn (wv_in (by decide) (wv_ib (by omega) (by omega) (wv_gn (wv_in (by decide) (wv_ib (by omega) (by omega) (wv_gn (wv_ret ⟨?_, fun i i0 i1 => ?_⟩)))))))))))
    · refine (((((((Fr.rf.wr ?_).wr ?_).wr ?_).wr ?_).wr ?_).wr ?_).wr ?_).wr ?_ <;> omega
    · have hi : i = 0 ∨ i = 1 ∨ i = 2 ∨ i = 3 ∨ i = 4 ∨ i = 5 ∨ i = 6 ∨ i = 7 := by omega
      rcases hi with rfl | rfl | rfl | rfl | rfl | rfl | rfl | rfl
      · rw [wrd_0]
        simp (disch := omega) only [w32_id, rd_eq, rd_ne, cp_in, cp_out, lc_lt, lc_gt, lc_eq]
      · rw [wrd_1]
        simp (disch := omega) only [w32_id, rd_eq, rd_ne, cp_in, cp_out, lc_lt, lc_gt, lc_eq]
      · rw [wrd_2]
        simp (disch := omega) only [w32_id, rd_eq, rd_ne, cp_in, cp_out, lc_lt, lc_gt, lc_eq]
      · rw [wrd_3]
        simp (disch := omega) only [w32_id, rd_eq, rd_ne, cp_in, cp_out, lc_lt, lc_gt, lc_eq]
      · rw [wrd_4]
        simp (disch := omega) only [w32_id, rd_eq, rd_ne, cp_in, cp_out, lc_lt, lc_gt, lc_eq]
      · rw [wrd_5, if_neg hh]
        simp (disch := omega) only [w32_id, rd_eq, rd_ne, cp_in, cp_out, lc_lt, lc_gt, lc_eq]
        exact R2.2.2.2.2.1 _ hh2.1 (by omega)
      · rw [wrd_6, if_neg hh]
        simp (disch := omega) only [w32_id, rd_eq, rd_ne, cp_in, cp_out, lc_lt, lc_gt, lc_eq]
        exact R1.2.2.2.2.2 _ hh2.1 (by omega)
      · rw [wrd_7, if_neg q]
        simp (disch := omega) only [w32_id, rd_eq, rd_ne, cp_in, cp_out, lc_lt, lc_gt, lc_eq]
        exact q1
theorem choose_L {B r : Int} {W : (Int → Int) → Int} {S : Int → Int} {h0 : MH} (H : Wf B S) (Rw : RwC h0 r (some W)) : ∀ (m f : Nat) (b x v : Int) (h : MH), m < f → v + m = S 12 → 0 ≤ v → RuR h S → KeepR h0 h → m_rd h 322 8 = S 12 → m_rd h 322 9 = sm6 S 20 → m_rd h 322 10 = S 10 → ∃ h', GX7_choose_L72 r (fun w3 h4 => some (w3, h4)) f b x v h = some (chF W S m v b x, h') ∧ Fr ScC h h' := by
  have n12 := H.2.2.1.1
  intro m
  induction m with
  | zero =>
    intro f b x v h hf hv v0 R K x8 x9 x10
    obtain ⟨q, rfl⟩ : ∃ q, f = q + 1 := ⟨f - 1, by omega⟩
    conv => enter [1, h', 1, 1]; unfold GX7_choose_L72
    rw [R.2.1.2.2.1, if_neg (by omega)]
    exact ⟨h, rfl, Fr.rf⟩
  | succ m ih =>
    intro f b x v h hf hv v0 R K x8 x9 x10
    obtain ⟨q, rfl⟩ : ∃ q, f = q + 1 := ⟨f - 1, by omega⟩
    conv => enter [1, h', 1, 1]; unfold GX7_choose_L72
    obtain ⟨h1, e1, F1, w1⟩ := describe_ok R H v0 (show v < S 12 by omega)
    have K1 : KeepR h0 h1 := K.tr (F1.kr (fun a j z => by unfold RdR; omega))
    obtain ⟨h2, e2, F2⟩ := Rw.2.2 h1 K1
    have rm := Rw.1
    have ew : W (m_rd h1 322) = W (wrd S v) := by
      refine Rw.2.1 _ _ (fun i i0 i1 => ?_)
      by_cases c : i < 8
      · exact w1 i i0 c
      · have hi : i = 8 ∨ i = 9 ∨ i = 10 := by omega
        rcases hi with rfl | rfl | rfl
        · rw [F1.rd (by omega), x8, wrd_8]
        · rw [F1.rd (by omega), x9, wrd_9]
        · rw [F1.rd (by omega), x10, wrd_10]
    rw [ew] at e2
    have T : TO h1 r 5 := by
      have := rm.2.2
      unfold TO m_kd at *
      rw [K1.1, K1.2.1]
      exact this
    rw [R.2.1.2.2.1, if_pos (by omega), e1, bv_some, gd_cons T, gd_nil, e2, bd_some, w32_id (x := v + 1) (by omega) (by omega)]
    have F12 : Fr ScC h h2 := (F1.wk (fun a j z => by unfold ScC; omega)).tr (F2.wk (fun a j z => by unfold ScC; omega))
    have R2 : RuR h2 S := R.cg F12 (fun a j z => by unfold ScC at z; omega)
    have K2 : KeepR h0 h2 := K1.tr (F2.kr (fun a j z => by unfold RdR; omega))
    have y : ∀ i, 8 ≤ i → m_rd h2 322 i = m_rd h 322 i := fun i i0 => by rw [F2.rd (by omega), F1.rd (by omega)]
    by_cases c : x < W (wrd S v)
    · rw [if_pos (lc_gt.2 c), show chF W S (m + 1) v b x = chF W S m (v + 1) v (W (wrd S v)) from if_pos c]
      obtain ⟨h', e', F'⟩ := ih q v (W (wrd S v)) (v + 1) h2 (by omega) (by omega) (by omega) R2 K2 (by rw [y 8 (by omega)]; exact x8) (by rw [y 9 (by omega)]; exact x9) (by rw [y 10 (by omega)]; exact x10)
      exact ⟨h', e', F12.tr F'⟩
    · rw [if_neg (fun z => c (lc_gt.1 z)), show chF W S (m + 1) v b x = chF W S m (v + 1) b x from if_neg c]
      obtain ⟨h', e', F'⟩ := ih q b x (v + 1) h2 (by omega) (by omega) (by omega) R2 K2 (by rw [y 8 (by omega)]; exact x8) (by rw [y 9 (by omega)]; exact x9) (by rw [y 10 (by omega)]; exact x10)
      exact ⟨h', e', F12.tr F'⟩
theorem choose_ok {B r : Int} {o : WF} {S : Int → Int} {h : MH} (R : RuR h S) (H : Wf B S) (Rw : RwC h r o) : ∃ h', GX7_choose r h = some (cho o S, h') ∧ Fr ScC h h' := by
  have n12 := H.2.2.1.1
  unfold GX7_choose
  cases o with
  | none =>
    have rr : r = -1 := Rw
    rw [if_pos rr, R.2.1.2.2.1]
    show ∃ h', _ = some ((if 0 < S 12 then (0 : Int) else -1), h') ∧ _
    by_cases c : 0 < S 12
    · rw [if_pos c, if_pos c]
      exact ⟨h, rfl, Fr.rf⟩
    · rw [if_neg c, if_neg c]
      exact ⟨h, rfl, Fr.rf⟩
  | some W =>
    have rm := Rw.1
    have F1 : Fr ScC h (m_wr h 322 8 (m_rd h 314 1)) := Fr.rf.wr (Or.inl rfl)
    have R1 : RuR (m_wr h 322 8 (m_rd h 314 1)) S := R.cg F1 (fun a j z => by unfold ScC at z; omega)
    rw [if_neg (by omega), bags_all (w := 314) (by decide) R1.2.2.2 R1.2.1 H.2.2.1, bd_some]
    have F2 : Fr ScC h (m_wr (m_wr (m_wr h 322 8 (m_rd h 314 1)) 322 9 (sm6 S 20)) 322 10 (m_rd (m_wr (m_wr h 322 8 (m_rd h 314 1)) 322 9 (sm6 S 20)) 314 6)) := (F1.wr (Or.inl rfl)).wr (Or.inl rfl)
    have R2 := R.cg F2 (fun a j z => by unfold ScC at z; omega)
    obtain ⟨h', e', F'⟩ := choose_L H Rw (S 12).toNat FU (-1) 0 0 _ (by unfold FU; omega) (by omega) (by omega) R2 (F2.kr (fun a j z => by unfold RdR; unfold ScC at z; omega)) (by simp (disch := omega) only [w32_id, rd_eq, rd_ne, cp_in, cp_out, lc_lt, lc_gt, lc_eq]; exact R.2.1.2.2.1) (by simp (disch := omega) only [w32_id, rd_eq, rd_ne, cp_in, cp_out, lc_lt, lc_gt, lc_eq]) (by simp (disch := omega) only [w32_id, rd_eq, rd_ne, cp_in, cp_out, lc_lt, lc_gt, lc_eq]; exact R.2.1.1)
    exact ⟨h', e', F2.tr F'⟩
theorem takeOut_L {t u n : Int} {K : MH → Option (Int × MH)} (n1 : n < 20) : ∀ (m f : Nat) (v : Int) (h : MH), m < f → v + m = n → 0 ≤ v → m_rd h t 1 = n → ∃ h', GX10_takeOut_L33 t u K f v h = K h' ∧ Fr (fun a _ => a = t + 5) h h' ∧ (∀ k, v ≤ k → k < n → m_rd h' (t + 5) k = m_rd h (t + 5) (k + 1)) ∧ ∀ k, ¬ (v ≤ k ∧ k < n) → m_rd h' (t + 5) k = m_rd h (t + 5) k := by
  intro m
  induction m with
  | zero =>
    intro f v h hf hv v0 hn
    obtain ⟨q, rfl⟩ : ∃ q, f = q + 1 := ⟨f - 1, by omega⟩
    conv => enter [1, h', 1, 1]; unfold GX10_takeOut_L33
    rw [if_neg (by omega)]
    exact ⟨h, rfl, Fr.rf, fun k k0 k1 => by omega, fun k _ => rfl⟩
  | succ m ih =>
    intro f v h hf hv v0 hn
    obtain ⟨q, rfl⟩ : ∃ q, f = q + 1 := ⟨f - 1, by omega⟩
    conv => enter [1, h', 1, 1]; unfold GX10_takeOut_L33
    rw [if_pos (by omega), w32_id (x := v + 1) (by omega) (by omega), gd_ib (by omega) (by omega), gd_ib (by omega) (by omega), gd_nil]
    obtain ⟨h', e, F, a1, a2⟩ := ih q (v + 1) (m_wr h (t + 5) v (m_rd h (t + 5) (v + 1))) (by omega) (by omega) (by omega) (by rw [rd_ne (by omega)]; exact hn)
    refine ⟨h', e, Fr.tr (Fr.wr Fr.rf rfl) F, fun k k0 k1 => ?_, fun k k0 => ?_⟩
    · by_cases c : k = v
      · rw [a2 k (by omega), rd_eq rfl c, c]
      · rw [a1 k (by omega) k1, rd_ne (by omega)]
    · rw [a2 k (by omega), rd_ne (by omega)]
theorem takeOut_ok {t p : Int} {S : Int → Int} {h : MH} (R : WkR h t S) (n12 : S 12 ≤ 20) (n13 : S 13 ≤ 12) (p0 : 0 ≤ p) (p1 : p < S 12) : ∃ h', GX10_takeOut t p h = some (S (26 + p), h') ∧ Fr (fun x _ => t ≤ x ∧ x < t + 8) h h' ∧ WkR h' t (lvS p S) := by
  obtain ⟨r1, r2, r3, ⟨r4, r4b⟩, r5, r6, r7⟩ := id R
  have k' : ∀ k, k ≠ 12 ∧ (k < 26 ∨ 45 ≤ k) → lvS p S k = S k := fun k z => lv_k p0 n12 z
  have e12 : lvS p S 12 = S 12 - 1 := by
    unfold lvS
    rw [if_pos rfl]
  unfold GX10_takeOut
  rw [if_neg (by omega), r3, if_pos p1, gd_ib p0 (by omega), gd_nil, w32_id (x := S 12 - 1) (by omega) (by omega), r7 p p0 p1]
  obtain ⟨h', e, F, a1, a2⟩ := takeOut_L (t := t) (u := S (26 + p)) (n := S 12 - 1) (K := fun h1 => some (S (26 + p), h1)) (by omega) (S 12 - 1 - p).toNat FU p (m_wr h t 1 (S 12 - 1)) (by unfold FU; omega) (by omega) p0 (by simp (disch := omega) only [w32_id, rd_eq, rd_ne, cp_in, cp_out, lc_lt, lc_gt, lc_eq])
  refine ⟨h', e, (Fr.wr Fr.rf (by omega)).tr (F.wk (fun a j z => by omega)), ?_, ?_, ?_, ⟨?_, fun i i0 i1 => ?_⟩, fun i i0 i1 => ?_, fun i i0 i1 => ?_, fun i i0 i1 => ?_⟩
  · rw [k' 10 (by omega), F.rd (by omega)]
    simp (disch := omega) only [w32_id, rd_eq, rd_ne, cp_in, cp_out, lc_lt, lc_gt, lc_eq]
    exact r1
  · rw [k' 11 (by omega), F.rd (by omega)]
    simp (disch := omega) only [w32_id, rd_eq, rd_ne, cp_in, cp_out, lc_lt, lc_gt, lc_eq]
    exact r2
  · rw [e12, F.rd (by omega)]
    simp (disch := omega) only [w32_id, rd_eq, rd_ne, cp_in, cp_out, lc_lt, lc_gt, lc_eq]
  · rw [k' 13 (by omega), F.rd (by omega)]
    simp (disch := omega) only [w32_id, rd_eq, rd_ne, cp_in, cp_out, lc_lt, lc_gt, lc_eq]
    exact r4
  · rw [k' 13 (by omega)] at i1
    rw [k' _ (by omega), k' _ (by omega), k' _ (by omega), F.rd (by omega), F.rd (by omega), F.rd (by omega)]
    simp (disch := omega) only [w32_id, rd_eq, rd_ne, cp_in, cp_out, lc_lt, lc_gt, lc_eq]
    exact r4b i i0 i1
  · rw [k' _ (by omega), F.rd (by omega)]
    simp (disch := omega) only [w32_id, rd_eq, rd_ne, cp_in, cp_out, lc_lt, lc_gt, lc_eq]
    exact r5 i i0 i1
  · rw [k' _ (by omega), F.rd (by omega)]
    simp (disch := omega) only [w32_id, rd_eq, rd_ne, cp_in, cp_out, lc_lt, lc_gt, lc_eq]
    exact r6 i i0 i1
  · rw [e12] at i1
    unfold lvS
    rw [if_neg (by omega)]
    by_cases c : p ≤ i
    · rw [if_pos (by omega), a1 i c i1]
      simp (disch := omega) only [w32_id, rd_eq, rd_ne, cp_in, cp_out, lc_lt, lc_gt, lc_eq]
      rw [show 26 + i + 1 = 26 + (i + 1) by omega]
      exact r7 (i + 1) (by omega) (by omega)
    · rw [if_neg (by omega), a2 i (by omega)]
      simp (disch := omega) only [w32_id, rd_eq, rd_ne, cp_in, cp_out, lc_lt, lc_gt, lc_eq]
      exact r7 i i0 (by omega)
theorem WkR.u11 {h : MH} {w v : Int} {S : Int → Int} (R : WkR h w S) : WkR (m_wr h w 5 v) w (ups S 11 v) := by
  obtain ⟨r1, r2, r3, ⟨r4, r4b⟩, r5, r6, r7⟩ := R
  refine ⟨?_, ?_, ?_, ⟨?_, fun e e0 e1 => ?_⟩, fun i i0 i1 => ?_, fun i i0 i1 => ?_, fun i i0 i1 => ?_⟩
  · rw [up_k (by omega)]
    simp (disch := omega) only [w32_id, rd_eq, rd_ne, cp_in, cp_out, lc_lt, lc_gt, lc_eq]
    exact r1
  · rw [up_eq rfl]
    simp (disch := omega) only [w32_id, rd_eq, rd_ne, cp_in, cp_out, lc_lt, lc_gt, lc_eq]
  · rw [up_k (by omega)]
    simp (disch := omega) only [w32_id, rd_eq, rd_ne, cp_in, cp_out, lc_lt, lc_gt, lc_eq]
    exact r3
  · rw [up_k (by omega)]
    simp (disch := omega) only [w32_id, rd_eq, rd_ne, cp_in, cp_out, lc_lt, lc_gt, lc_eq]
    exact r4
  · rw [up_k (by omega)] at e1
    rw [up_k (by omega), up_k (by omega), up_k (by omega)]
    simp (disch := omega) only [w32_id, rd_eq, rd_ne, cp_in, cp_out, lc_lt, lc_gt, lc_eq]
    exact r4b e e0 e1
  · rw [up_k (by omega)]
    simp (disch := omega) only [w32_id, rd_eq, rd_ne, cp_in, cp_out, lc_lt, lc_gt, lc_eq]
    exact r5 i i0 i1
  · rw [up_k (by omega)]
    simp (disch := omega) only [w32_id, rd_eq, rd_ne, cp_in, cp_out, lc_lt, lc_gt, lc_eq]
    exact r6 i i0 i1
  · rw [up_k (by omega)] at i1
    rw [up_k (by omega)]
    simp (disch := omega) only [w32_id, rd_eq, rd_ne, cp_in, cp_out, lc_lt, lc_gt, lc_eq]
    exact r7 i i0 i1
theorem WkR.u10 {h : MH} {w v : Int} {S : Int → Int} (R : WkR h w S) : WkR (m_wr h w 6 v) w (ups S 10 v) := by
  obtain ⟨r1, r2, r3, ⟨r4, r4b⟩, r5, r6, r7⟩ := R
  refine ⟨?_, ?_, ?_, ⟨?_, fun e e0 e1 => ?_⟩, fun i i0 i1 => ?_, fun i i0 i1 => ?_, fun i i0 i1 => ?_⟩
  · rw [up_eq rfl]
    simp (disch := omega) only [w32_id, rd_eq, rd_ne, cp_in, cp_out, lc_lt, lc_gt, lc_eq]
  · rw [up_k (by omega)]
    simp (disch := omega) only [w32_id, rd_eq, rd_ne, cp_in, cp_out, lc_lt, lc_gt, lc_eq]
    exact r2
  · rw [up_k (by omega)]
    simp (disch := omega) only [w32_id, rd_eq, rd_ne, cp_in, cp_out, lc_lt, lc_gt, lc_eq]
    exact r3
  · rw [up_k (by omega)]
    simp (disch := omega) only [w32_id, rd_eq, rd_ne, cp_in, cp_out, lc_lt, lc_gt, lc_eq]
    exact r4
  · rw [up_k (by omega)] at e1
    rw [up_k (by omega), up_k (by omega), up_k (by omega)]
    simp (disch := omega) only [w32_id, rd_eq, rd_ne, cp_in, cp_out, lc_lt, lc_gt, lc_eq]
    exact r4b e e0 e1
  · rw [up_k (by omega)]
    simp (disch := omega) only [w32_id, rd_eq, rd_ne, cp_in, cp_out, lc_lt, lc_gt, lc_eq]
    exact r5 i i0 i1
  · rw [up_k (by omega)]
    simp (disch := omega) only [w32_id, rd_eq, rd_ne, cp_in, cp_out, lc_lt, lc_gt, lc_eq]
    exact r6 i i0 i1
  · rw [up_k (by omega)] at i1
    rw [up_k (by omega)]
    simp (disch := omega) only [w32_id, rd_eq, rd_ne, cp_in, cp_out, lc_lt, lc_gt, lc_eq]
    exact r7 i i0 i1
theorem WkR.uly {h : MH} {w t v : Int} {S : Int → Int} (R : WkR h w S) (t0 : 0 ≤ t) (t1 : t < 6) : WkR (m_wr h (w + 6) t v) w (ups S (14 + t) v) := by
  obtain ⟨r1, r2, r3, ⟨r4, r4b⟩, r5, r6, r7⟩ := R
  refine ⟨?_, ?_, ?_, ⟨?_, fun e e0 e1 => ?_⟩, fun i i0 i1 => ?_, fun i i0 i1 => ?_, fun i i0 i1 => ?_⟩
  · rw [up_k (by omega)]
    simp (disch := omega) only [w32_id, rd_eq, rd_ne, cp_in, cp_out, lc_lt, lc_gt, lc_eq]
    exact r1
  · rw [up_k (by omega)]
    simp (disch := omega) only [w32_id, rd_eq, rd_ne, cp_in, cp_out, lc_lt, lc_gt, lc_eq]
    exact r2
  · rw [up_k (by omega)]
    simp (disch := omega) only [w32_id, rd_eq, rd_ne, cp_in, cp_out, lc_lt, lc_gt, lc_eq]
    exact r3
  · rw [up_k (by omega)]
    simp (disch := omega) only [w32_id, rd_eq, rd_ne, cp_in, cp_out, lc_lt, lc_gt, lc_eq]
    exact r4
  · rw [up_k (by omega)] at e1
    rw [up_k (by omega), up_k (by omega), up_k (by omega)]
    simp (disch := omega) only [w32_id, rd_eq, rd_ne, cp_in, cp_out, lc_lt, lc_gt, lc_eq]
    exact r4b e e0 e1
  · by_cases c : i = t
    · rw [up_eq (by omega)]
      simp (disch := omega) only [w32_id, rd_eq, rd_ne, cp_in, cp_out, lc_lt, lc_gt, lc_eq]
    · rw [up_k (by omega)]
      simp (disch := omega) only [w32_id, rd_eq, rd_ne, cp_in, cp_out, lc_lt, lc_gt, lc_eq]
      exact r5 i i0 i1
  · rw [up_k (by omega)]
    simp (disch := omega) only [w32_id, rd_eq, rd_ne, cp_in, cp_out, lc_lt, lc_gt, lc_eq]
    exact r6 i i0 i1
  · rw [up_k (by omega)] at i1
    rw [up_k (by omega)]
    simp (disch := omega) only [w32_id, rd_eq, rd_ne, cp_in, cp_out, lc_lt, lc_gt, lc_eq]
    exact r7 i i0 i1
theorem rlay_ok {B c : Int} {S : Int → Int} {h : MH} (R1 : ShR h 311 S) (R2 : WkR h 314 S) (H : Wf B S) (hB : B ≤ 1000000) (z0 : m_rd h 310 5 = -1) : ∃ h', GX7_lay (hol S c) h = some h' ∧ Fr (fun a j => (314 ≤ a ∧ a < 322) ∨ (a = 310 ∧ j = 5)) h h' ∧ WkR h' 314 (soS c S) ∧ m_rd h' 310 5 = soT c S := by
  obtain ⟨F, E, W, t1, t2, t3⟩ := id H
  have fb := F.b
  have hb := hol_b (c := c) E
  have e11 := R2.2.1
  unfold GX7_lay soS soT
  rw [hasHole_ok R1, bd_some]
  by_cases q : hol S c < 0
  · rw [if_pos (by rw [t01]; omega), if_pos q, if_pos q, e11, w32_id (by omega) (by omega)]
    refine ⟨_, rfl, Fr.rf.wr (by omega), R2.u11, ?_⟩
    simp (disch := omega) only [w32_id, rd_eq, rd_ne, cp_in, cp_out, lc_lt, lc_gt, lc_eq]
    exact z0
  · have hh := hb.2.2 (by omega)
    have wl := W.2.1 (hol S c) hh.1 (by omega)
    have el : m_rd h 320 (hol S c) = S (14 + hol S c) := R2.2.2.2.2.1 _ hh.1 (by omega)
    have erm : m_rd h 313 (hol S c) = S (82 + hol S c) := R1.2.2.2.2.2 _ hh.1 (by omega)
    rw [if_neg (by rw [t01]; omega), if_neg q, if_neg q, gd_ib (by omega) (by omega), gd_nil, gd_ib (by omega) (by omega), gd_nil]
    simp only [jn]
    rw [el, erm]
    by_cases q2 : S (14 + hol S c) < S (82 + hol S c)
    · rw [if_pos q2, if_pos q2, if_pos q2, gd_ib (by omega) (by omega), gd_nil, w32_id (by omega) (by omega)]
      refine ⟨_, rfl, Fr.rf.wr (by omega), R2.uly hh.1 (by omega), ?_⟩
      simp (disch := omega) only [w32_id, rd_eq, rd_ne, cp_in, cp_out, lc_lt, lc_gt, lc_eq]
      exact z0
    · obtain ⟨g, e, Fg, Rg⟩ := bagUp_ok (t := hol S c) R2 W hh.1 (by omega) E.1.2
      rw [if_neg q2, if_neg q2, if_neg q2, e, bv_some, gd_ib (by omega) (by omega), gd_nil]
      have Rg' : WkR (m_wr g 310 5 (hol S c)) 314 (tiS (hol S c) S) := Rg.cg (fun a j z1 z2 => by simp (disch := omega) only [w32_id, rd_eq, rd_ne, cp_in, cp_out, lc_lt, lc_gt, lc_eq])
      have el2 : m_rd (m_wr g 310 5 (hol S c)) 320 (hol S c) = 0 := by
        have := Rg'.2.2.2.2.1 (hol S c) hh.1 (by omega)
        rw [ti_at, if_pos rfl] at this
        exact this
      rw [el2]
      refine ⟨_, rfl, ((Fg.wk (fun a j z => by omega)).wr (by omega)).wr (by omega), ?_, ?_⟩
      · exact Rg'.uly hh.1 (by omega)
      · simp (disch := omega) only [w32_id, rd_eq, rd_ne, cp_in, cp_out, lc_lt, lc_gt, lc_eq]
theorem ups_comm {S : Int → Int} {i j a b : Int} (n : i ≠ j) : ups (ups S i a) j b = ups (ups S j b) i a := by
  funext k
  unfold ups
  by_cases c1 : k = j
  · rw [if_pos c1, if_neg (by omega), if_pos c1]
  · rw [if_neg c1, if_neg c1]
theorem so_comm {c v : Int} {S : Int → Int} (E : WfE S) : soS c (ups S 10 v) = ups (soS c S) 10 v ∧ soT c (ups S 10 v) = soT c S := by
  have hb := hol_b (c := c) E
  have eh : hol (ups S 10 v) c = hol S c := hol_sg E (fun k z => up_k (by omega))
  unfold soS soT
  rw [eh]
  by_cases q : hol S c < 0
  · rw [if_pos q, if_pos q, if_pos q, if_pos q, up_k (by omega)]
    exact ⟨ups_comm (by omega), rfl⟩
  · rw [if_neg q, if_neg q, if_neg q, if_neg q, up_k (by omega), up_k (by omega)]
    by_cases q2 : S (14 + hol S c) < S (82 + hol S c)
    · rw [if_pos q2, if_pos q2, if_pos q2]
      exact ⟨ups_comm (by omega), rfl⟩
    · rw [if_neg q2, if_neg q2, if_neg q2]
      refine ⟨?_, rfl⟩
      unfold tiS
      rw [up_k (by omega), ups_comm (i := 10) (by omega), ups_comm (i := 10) (by omega), ups_comm (i := 10) (by omega)]
theorem step_ok {B r : Int} {o : WF} {S : Int → Int} {h : MH} (R : RuR h S) (H : Wf B S) (hB : B ≤ 100000) (Rw : RwC h r o) : ∃ h', GX7_step r h = some (paC o S, h') ∧ Fr StC h h' ∧ RuR h' (paS o S) ∧ m_rd h' 310 5 = paT o S := by
  obtain ⟨F, E, W, t1, t2, t3⟩ := id H
  have n12 := W.1
  have cb := cho_b (o := o) (S := S) n12.1
  have pk := fun {k : Int} (z : k < 10 ∨ k = 13 ∨ 45 ≤ k) => pa_k (o := o) H z
  have pw' := pa_wf (o := o) H
  obtain ⟨h1, e1, F1⟩ := choose_ok R H Rw
  have R1 : RuR h1 S := R.cg F1 (fun a j z => by unfold ScC at z; omega)
  have F1' : Fr StC h h1 := F1.wk (fun a j z => by unfold ScC at z; unfold StC; omega)
  have fin : ∀ h', Fr StC h h' → WkR h' 314 (paS o S) → RuR h' (paS o S) := fun h' Fh Rh => by
    refine ⟨(R.1.cg (fun a j z1 z2 => Fh.rd (by unfold StC; omega))).sg (fun k z => pk (by omega)), Rh, (R.2.2.1.cg Fh (fun a j z => by unfold StC at z; omega)).sg E.1.2 (pk (by omega)) (pk (by omega)) (pk (by omega)) (pk (by omega)) (fun i i0 i1 => ⟨pk (by omega), pk (by omega)⟩), by rw [Fh.2.1]; exact R.2.2.2⟩
  unfold GX7_step
  rw [e1, bd_some]
  by_cases q : cho o S < 0
  · have et : GX10_takeOut 314 (cho o S) h1 = some (-1, h1) := by
      unfold GX10_takeOut
      rw [if_pos q]
    rw [et, bd_some]
    simp only [hl]
    rw [if_pos trivial, rd_ne (by omega), R1.2.1.1, w32_id (by omega) (by omega)]
    have Fh : Fr StC h (m_wr (m_wr h1 310 5 (-1)) 314 6 (S 10 + 1)) := (F1'.wr (by unfold StC; omega)).wr (by unfold StC; omega)
    have Rh : WkR (m_wr (m_wr h1 310 5 (-1)) 314 6 (S 10 + 1)) 314 (paS o S) := by
      have := (R1.2.1.cg (h' := m_wr h1 310 5 (-1)) (fun a j z1 z2 => by simp (disch := omega) only [w32_id, rd_eq, rd_ne, cp_in, cp_out, lc_lt, lc_gt, lc_eq])).u10 (v := S 10 + 1)
      unfold paS paX
      rw [if_pos q]
      exact this
    refine ⟨_, ?_, Fh, fin _ Fh Rh, ?_⟩
    · unfold paC
      rw [if_pos q]
    · unfold paT
      rw [if_pos q]
      simp (disch := omega) only [w32_id, rd_eq, rd_ne, cp_in, cp_out, lc_lt, lc_gt, lc_eq]
  · have q1 := cb.2 (by omega)
    obtain ⟨h3, e3, F3, R3⟩ := takeOut_ok (p := cho o S) R1.2.1 n12.2 E.1.2 (by omega) q1
    have f1 := fr12 H (by omega)
    obtain ⟨c0, c1⟩ := W.2.2 (cho o S) (by omega) q1
    rw [e3, bd_some]
    simp only [hl]
    have lw := lvs_wf H (p := cho o S) (by omega) q1
    have lk : ∀ {k : Int}, k ≠ 12 ∧ (k < 26 ∨ 45 ≤ k) → lvS (cho o S) S k = S k := fun z => lv_k (by omega) n12.2 z
    rw [rd_ne (by omega), R3.1, lk (by omega), w32_id (x := S 10 + 1) (by omega) (by omega), if_neg (by omega)]
    have F3' : Fr StC h h3 := F1'.tr (F3.wk (fun a j z => by unfold StC; omega))
    obtain ⟨h5, e5⟩ : ∃ h5, h5 = m_wr (m_wr h3 310 5 (-1)) 314 6 (S 10 + 1) := ⟨_, rfl⟩
    rw [← e5]
    have F5 : Fr StC h h5 := by
      rw [e5]
      exact (F3'.wr (by unfold StC; omega)).wr (by unfold StC; omega)
    have R5 : WkR h5 314 (ups (lvS (cho o S) S) 10 (S 10 + 1)) := by
      rw [e5]
      exact (R3.cg (h' := m_wr h3 310 5 (-1)) (fun a j z1 z2 => by simp (disch := omega) only [w32_id, rd_eq, rd_ne, cp_in, cp_out, lc_lt, lc_gt, lc_eq])).u10
    have uk : ∀ {k : Int}, k < 10 ∨ k = 13 ∨ 45 ≤ k → ups (lvS (cho o S) S) 10 (S 10 + 1) k = S k := fun z => by
      rw [up_k (by omega), lk (by omega)]
    have S5 : ShR h5 311 (ups (lvS (cho o S) S) 10 (S 10 + 1)) := (R.1.cg (fun a j z1 z2 => F5.rd (by unfold StC; omega))).sg (fun k z => uk (by omega))
    have C5 : ChR h5 311 315 (ups (lvS (cho o S) S) 10 (S 10 + 1)) := (R.2.2.1.cg F5 (fun a j z => by unfold StC at z; omega)).sg E.1.2 (uk (by omega)) (uk (by omega)) (uk (by omega)) (uk (by omega)) (fun i i0 i1 => ⟨uk (by omega), uk (by omega)⟩)
    have W5 : Wf (B + 1) (ups (lvS (cho o S) S) 10 (S 10 + 1)) := by
      obtain ⟨x1, x2, x3, x4, x5, x6⟩ := id lw
      have k11 : lvS (cho o S) S 11 = S 11 := lk (by omega)
      have k0 : lvS (cho o S) S 0 = S 0 := lk (by omega)
      refine lw.st (fun k z => up_k (by omega)) (x2.sg (fun k z => up_k (by omega))) (x3.sg (fun k z => up_k (by omega))) ?_ ?_ ?_ ?_
      · rw [up_k (by omega), k11]
        exact t1
      · rw [up_k (by omega), up_eq rfl, k11]
        omega
      · rw [up_eq rfl]
        omega
      · intro z
        omega
    have cdc : cod (ups (lvS (cho o S) S) 10 (S 10 + 1)) = cod S := cod_sg (uk (by omega)) (uk (by omega)) (uk (by omega))
    rw [holeFor_ok W5.1 W5.2.1 C5 S5 R5.2.2.2.1, bd_some, if_pos ⟨c0, by rw [cdc]; exact c1⟩]
    obtain ⟨h8, e8, F8, R8, T8⟩ := rlay_ok (c := S (26 + cho o S)) S5 R5 W5 (by omega) (by rw [e5]; simp (disch := omega) only [w32_id, rd_eq, rd_ne, cp_in, cp_out, lc_lt, lc_gt, lc_eq])
    obtain ⟨sc1, sc2⟩ := so_comm (c := S (26 + cho o S)) (v := S 10 + 1) lw.2.1
    rw [e8, bv_some]
    have F8' : Fr StC h h8 := F5.tr (F8.wk (fun a j z => by unfold StC; omega))
    refine ⟨h8, ?_, F8', fin _ F8' ?_, ?_⟩
    · unfold paC
      rw [if_neg q]
    · unfold paS paX
      rw [if_neg q, ← sc1]
      exact R8
    · unfold paT
      rw [if_neg q, ← sc2]
      exact T8
