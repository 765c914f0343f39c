/-! one: the best entry more -/
theorem hol_en {B c d p t : Int} {S : Int → Int} (H : Wf B S) (E' : WfE (enS d p t S)) : hol (enS d p t S) c = if prf S c d = p ∧ (ent S c < 0 ∨ S (46 + 3 * ent S c) ≤ d) then t else hol S c := by
  have E := H.2.1
  have n13 := E.1
  have nf := num_f (S := S) (d := d) (p := p) n13.1
  obtain ⟨x1, x2, x3⟩ := en_e (d := d) (p := p) (t := t) n13.1
  have e13 := en_13 (d := d) (p := p) (t := t) n13.1
  have so : ∀ {k : Int}, k ≠ 13 → (k < 46 + 3 * num S d p ∨ 48 + 3 * num S d p < k) → enS d p t S k = S k := fun k1 k2 => en_o n13.1 k1 k2
  have pe : ∀ q, prf (enS d p t S) c q = prf S c q := fun q => prf_sg (so (by omega) (by omega)) (so (by omega) (by omega))
  have eb := ent_b (c := c) E
  have n13' : num S d p < enS d p t S 13 ∧ S 13 ≤ enS d p t S 13 ∧ ∀ i, 0 ≤ i → i < enS d p t S 13 → i ≠ num S d p → i < S 13 := by
    rw [e13]
    by_cases q : num S d p = S 13
    · rw [if_pos q]
      exact ⟨by omega, by omega, fun i i0 i1 i2 => by omega⟩
    · rw [if_neg q]
      exact ⟨by omega, by omega, fun i i0 i1 i2 => by omega⟩
  have mt : ∀ i, 0 ≤ i → i ≠ num S d p → (Mt (enS d p t S) c i ↔ Mt S c i) := fun i i0 i1 => by
    unfold Mt
    rw [pe, so (k := 47 + 3 * i) (by omega) (by omega), so (k := 46 + 3 * i) (by omega) (by omega)]
  have mn : Mt (enS d p t S) c (num S d p) ↔ prf S c d = p := by
    unfold Mt
    rw [pe, x1, x2]
    exact eq_comm
  by_cases A : prf S c d = p ∧ (ent S c < 0 ∨ S (46 + 3 * ent S c) ≤ d)
  · rw [if_pos A]
    have e := ent_u (c := c) E' nf.1 n13'.1 (mn.2 A.1) (fun i i0 i1 m => by
      by_cases ci : i = num S d p
      · rw [ci]
        exact Int.le_refl _
      · have m' := (mt i i0 ci).1 m
        have := eb.2.2.2 i i0 (n13'.2.2 i i0 i1 ci) m'
        rw [x1, so (k := 46 + 3 * i) (by omega) (by omega)]
        omega)
    unfold hol
    rw [e, if_neg (by omega), x3]
  · rw [if_neg A]
    by_cases q : ent S c < 0
    · have e := ent_n (c := c) E' (fun i i0 i1 m => by
        by_cases ci : i = num S d p
        · rw [ci] at m
          exact A ⟨mn.1 m, Or.inl q⟩
        · have := eb.2.2.2 i i0 (n13'.2.2 i i0 i1 ci) ((mt i i0 ci).1 m)
          omega)
      unfold hol
      rw [e, if_pos (by decide), if_pos q]
    · have me := eb.2.2.1 (by omega)
      have ne : ent S c ≠ num S d p := by
        intro z
        have q1 := nf.2.2.1 (by omega)
        unfold Mt at me
        rw [z, q1.1, q1.2] at me
        refine A ⟨me.symm, Or.inr ?_⟩
        rw [z, q1.1]
        exact Int.le_refl _
      have e := ent_u (c := c) E' (x := ent S c) (by omega) (by omega) ((mt _ (by omega) ne).2 me) (fun i i0 i1 m => by
        rw [so (k := 46 + 3 * ent S c) (by omega) (by omega)]
        by_cases ci : i = num S d p
        · rw [ci] at m ⊢
          rw [x1]
          by_cases z : S (46 + 3 * ent S c) ≤ d
          · exact absurd ⟨mn.1 m, Or.inr z⟩ A
          · omega
        · rw [so (k := 46 + 3 * i) (by omega) (by omega)]
          exact (eb.2.2.2 i i0 (n13'.2.2 i i0 i1 ci) ((mt i i0 ci).1 m)).2)
      unfold hol
      rw [e, if_neg q, if_neg q, so (k := 48 + 3 * ent S c) (by omega) (by omega)]
/-- by how much: lost, bags -/
def asG (S : Int → Int) : Int → Int := fun v => hol S (S (26 + v))
def byG (S : Int → Int) (d p t : Int) : Int → Int := fun v => if prf S (S (26 + v)) d = p ∧ (ent S (S (26 + v)) < 0 ∨ S (46 + 3 * ent S (S (26 + v))) ≤ d) then t else hol S (S (26 + v))
abbrev B5 : Type := Int × Int × Int × Int × Int
def upb (d p t : Int) (x : Int × Int × (Int → Int)) (b : B5) : B5 := if x.1 < b.1 ∨ (x.1 = b.1 ∧ x.2.1 < b.2.1) then (x.1, x.2.1, d, p, t) else b
def BR (h : MH) (a : Int) (b : B5) : Prop := m_rd h a 0 = b.1 ∧ m_rd h a 1 = b.2.1 ∧ m_rd h a 2 = b.2.2.1 ∧ m_rd h a 3 = b.2.2.2.1 ∧ m_rd h a 4 = b.2.2.2.2
theorem BR.cg {h h' : MH} {a : Int} {b : B5} (R : BR h a b) (e : ∀ j, 0 ≤ j → j < 5 → m_rd h' a j = m_rd h a j) : BR h' a b := by
  obtain ⟨a1, a2, a3, a4, a5⟩ := R
  refine ⟨?_, ?_, ?_, ?_, ?_⟩
  · rw [e _ (by omega) (by omega)]
    exact a1
  · rw [e _ (by omega) (by omega)]
    exact a2
  · rw [e _ (by omega) (by omega)]
    exact a3
  · rw [e _ (by omega) (by omega)]
    exact a4
  · rw [e _ (by omega) (by omega)]
    exact a5
/-- no worse than as it is -/
def leq (x : Int × Int × (Int → Int)) (b : B5) : Prop := b.1 < x.1 ∨ (b.1 = x.1 ∧ b.2.1 ≤ x.2.1)
theorem upb_leq {d p t : Int} {x y : Int × Int × (Int → Int)} {b : B5} (l : leq x b) : leq x (upb d p t y b) := by
  unfold leq upb at *
  by_cases c : y.1 < b.1 ∨ (y.1 = b.1 ∧ y.2.1 < b.2.1)
  · rw [if_pos c]
    show y.1 < x.1 ∨ (y.1 = x.1 ∧ y.2.1 ≤ x.2.1)
    omega
  · rw [if_neg c]
    exact l
theorem upb_same {d p t : Int} {x : Int × Int × (Int → Int)} {b : B5} (l : leq x b) : upb d p t x b = b := by
  unfold leq at l
  unfold upb
  rw [if_neg (by omega)]
/-- all holes for one prefix -/
def pfF (S : Int → Int) (d p : Int) : Nat → Int → B5 → B5
  | 0, _, b => b
  | m + 1, t, b => pfF S d p m (t + 1) (upb d p t (trF (byG S d p t) S) b)
def pfA (S : Int → Int) (d p : Int) (b : B5) : B5 := if num S d p < 12 then pfF S d p (S 3).toNat 0 b else b
theorem pfF_leq {S : Int → Int} {d p : Int} {x : Int × Int × (Int → Int)} : ∀ (m : Nat) (t : Int) (b : B5), leq x b → leq x (pfF S d p m t b) := by
  intro m
  induction m with
  | zero =>
    intro t b l
    exact l
  | succ m ih =>
    intro t b l
    exact ih (t + 1) _ (upb_leq l)
theorem pfA_leq {S : Int → Int} {d p : Int} {x : Int × Int × (Int → Int)} {b : B5} (l : leq x b) : leq x (pfA S d p b) := by
  unfold pfA
  split
  · exact pfF_leq _ _ _ l
  · exact l
theorem pfF_no {S : Int → Int} {d p : Int} (no : ∀ t v, 0 ≤ v → v < S 12 → byG S d p t v = asG S v) (n : 0 ≤ S 12) : ∀ (m : Nat) (t : Int) (b : B5), leq (trF (asG S) S) b → pfF S d p m t b = b := by
  intro m
  induction m with
  | zero =>
    intro t b _
    rfl
  | succ m ih =>
    intro t b l
    show pfF S d p m (t + 1) (upb d p t (trF (byG S d p t) S) b) = b
    rw [tr_cg n (no t), upb_same l]
    exact ih (t + 1) b l
/-! the class -/
def FaC (a j : Int) : Prop := (a = 323 ∧ (j = 12 ∨ j = 13)) ∨ a = 324 ∨ a = 325
/-- what the class's advice stands on -/
def AdC (h : MH) (S : Int → Int) : Prop := Dr h S ∧ WkR h 32 S
theorem AdC.cg {h h' : MH} {S : Int → Int} {P : Int → Int → Prop} (A : AdC h S) (F : Fr P h h') (n : ∀ a j, P a j → 323 ≤ a ∧ a < 334) : AdC h' S := ⟨A.1.cg2 F n, A.2.cg (fun a j z1 z2 => F.rd (fun z => by have := n a j z; omega))⟩
theorem asC_L {S : Int → Int} {B : Int} {K : MH → Option MH} (H : Wf B S) : ∀ (m f : Nat) (v : Int) (h : MH), m < f → v + m = S 12 → 0 ≤ v → AdC h S → (∀ i, 0 ≤ i → i < v → m_rd h 324 i = asG S i) → ∃ h', GX0_tryAsIs_L2 21 32 K f v h = K h' ∧ Fr (fun a _ => a = 324) h h' ∧ ∀ i, 0 ≤ i → i < S 12 → m_rd h' 324 i = asG S i := by
  have W := H.2.2.1
  have n12 := W.1
  intro m
  induction m with
  | zero =>
    intro f v h hf hv v0 A G
    obtain ⟨q, rfl⟩ : ∃ q, f = q + 1 := ⟨f - 1, by omega⟩
    conv => enter [1, h', 1, 1]; unfold GX0_tryAsIs_L2
    rw [A.2.2.2.1, if_neg (by omega)]
    exact ⟨h, rfl, Fr.rf, fun i i0 i1 => G i i0 (by omega)⟩
  | succ m ih =>
    intro f v h hf hv v0 A G
    obtain ⟨q, rfl⟩ : ∃ q, f = q + 1 := ⟨f - 1, by omega⟩
    obtain ⟨c0, c1⟩ := W.2.2 v v0 (by omega)
    have er : m_rd h 37 v = S (26 + v) := A.2.2.2.2.2.2.2 v v0 (by omega)
    conv => enter [1, h', 1, 1]; unfold GX0_tryAsIs_L2
    rw [A.2.2.2.1, if_pos (by omega), gd_ib v0 (by omega), gd_nil, show (32 : Int) + 5 = 37 from rfl, er, A.1.hf c0 c1, bd_some, gd_ib v0 (by omega), gd_nil, w32_id (x := v + 1) (by omega) (by omega)]
    have F2 : Fr (fun a _ => a = 324) h (m_wr h 324 v (hol S (S (26 + v)))) := Fr.wr Fr.rf rfl
    obtain ⟨h', e', F', G'⟩ := ih q (v + 1) _ (by omega) (by omega) (by omega) (A.cg F2 (fun a j z => by omega)) (fun i i0 i1 => by
      by_cases c : i = v
      · rw [rd_eq rfl c, c]
        rfl
      · rw [rd_ne (Or.inr c)]
        exact G i i0 (by omega))
    exact ⟨h', e', F2.tr F', G'⟩
theorem tryAsIs_ok {S : Int → Int} {B : Int} {h : MH} (H : Wf B S) (f1 : S 0 = 1) (A : AdC h S) : ∃ h', GX0_tryAsIs 21 32 h = some h' ∧ Fr (fun a _ => 323 ≤ a ∧ a < 326) h h' ∧ BR h' 323 ((trF (asG S) S).1, (trF (asG S) S).2.1, -1, -1, -1) ∧ m_rd h' 323 5 = -1 := by
  have n12 := H.2.2.1.1
  obtain ⟨h1, e1, F1, G1⟩ := asC_L (K := fun h1 => bv (GX0_tryGoals 21 32 h1) (fun h2 => hl (m_wr (m_wr h2 323 0 (m_rd h2 323 12)) 323 1 (m_rd (m_wr h2 323 0 (m_rd h2 323 12)) 323 13)) (fun h3 => some (m_wr (m_wr (m_wr (m_wr h3 323 2 (-1)) 323 3 (-1)) 323 4 (-1)) 323 5 (-1))))) H (S 12).toNat FU 0 h (by unfold FU; omega) (by omega) (by omega) A (fun i i0 i1 => by omega)
  have A1 := A.cg F1 (fun a j z => by omega)
  obtain ⟨h2, e2, F2, a1, a2⟩ := tryGoals_ok H f1 A1.1.2.2.2.1 A1.2 G1
  unfold GX0_tryAsIs
  rw [e1, e2, bv_some]
  simp only [hl]
  rw [rd_ne (b := 323) (j := 13) (by omega), a1, a2]
  refine ⟨_, rfl, ?_, ⟨?_, ?_, ?_, ?_, ?_⟩, ?_⟩
  · refine ((((((((F1.wk ?_).tr (F2.wk ?_)).wr ?_).wr ?_).wr ?_).wr ?_).wr ?_).wr ?_) <;> intros <;> (try unfold FtG at *) <;> omega
  · simp (disch := omega) only [w32_id, rd_eq, rd_ne, cp_in, cp_out, lc_lt, lc_gt, lc_eq]
  · simp (disch := omega) only [w32_id, rd_eq, rd_ne, cp_in, cp_out, lc_lt, lc_gt, lc_eq]
  · simp (disch := omega) only [w32_id, rd_eq, rd_ne, cp_in, cp_out, lc_lt, lc_gt, lc_eq]
  · simp (disch := omega) only [w32_id, rd_eq, rd_ne, cp_in, cp_out, lc_lt, lc_gt, lc_eq]
  · simp (disch := omega) only [w32_id, rd_eq, rd_ne, cp_in, cp_out, lc_lt, lc_gt, lc_eq]
  · simp (disch := omega) only [w32_id, rd_eq, rd_ne, cp_in, cp_out, lc_lt, lc_gt, lc_eq]
theorem sbC_L {S : Int → Int} {B d p t : Int} (H : Wf B S) (f1 : S 0 = 1) (d0 : 0 ≤ d) (d1 : d ≤ S 2) : ∀ (m f : Nat) (x v : Int) (h : MH), m < f → v + m = S 12 → 0 ≤ v → (x = 0 ∨ x = 1) → AdC h S → (∀ i, 0 ≤ i → i < v → m_rd h 324 i = byG S d p t i) → (x = 0 → ∀ i, 0 ≤ i → i < v → ¬ (prf S (S (26 + i)) d = p ∧ (ent S (S (26 + i)) < 0 ∨ S (46 + 3 * ent S (S (26 + i))) ≤ d))) → ∃ y h', GX0_sendByEntry_L6 21 32 d p t (fun w1 h2 => gd [GT w1] (some (w1, h2))) f x v h = some (y, h') ∧ (y = 0 ∨ y = 1) ∧ Fr (fun a _ => a = 324) h h' ∧ (∀ i, 0 ≤ i → i < S 12 → m_rd h' 324 i = byG S d p t i) ∧ (y = 0 → ∀ i, 0 ≤ i → i < S 12 → ¬ (prf S (S (26 + i)) d = p ∧ (ent S (S (26 + i)) < 0 ∨ S (46 + 3 * ent S (S (26 + i))) ≤ d))) := by
  obtain ⟨F, E, W, t1, t2, t3⟩ := id H
  have n12 := W.1
  have n13 := E.1
  have fw := frw F f1
  have cb := cod_b F
  intro m
  induction m with
  | zero =>
    intro f x v h hf hv v0 x01 A G no
    obtain ⟨q, rfl⟩ : ∃ q, f = q + 1 := ⟨f - 1, by omega⟩
    conv => enter [1, y, 1, h', 1, 1]; unfold GX0_sendByEntry_L6
    rw [A.2.2.2.1, if_neg (by omega), gd_cons (show GT x from x01), gd_nil]
    exact ⟨x, h, rfl, x01, Fr.rf, fun i i0 i1 => G i i0 (by omega), fun z i i0 i1 => no z i i0 (by omega)⟩
  | succ m ih =>
    intro f x v h hf hv v0 x01 A G no
    obtain ⟨q, rfl⟩ : ∃ q, f = q + 1 := ⟨f - 1, by omega⟩
    obtain ⟨c0, c1⟩ := W.2.2 v v0 (by omega)
    have er : m_rd h 37 v = S (26 + v) := A.2.2.2.2.2.2.2 v v0 (by omega)
    have eb := ent_b (c := S (26 + v)) E
    have pb := prf_b (S := S) (c := S (26 + v)) (d := d) c0 (by omega)
    have pp := pw_p (b := S 1) (n := S 2 - d) (by omega)
    have F2 : ∀ y, Fr (fun a _ => a = 324) h (m_wr h 324 v y) := fun y => Fr.wr Fr.rf rfl
    have A2 : ∀ y, AdC (m_wr h 324 v y) S := fun y => A.cg (F2 y) (fun a j z => by omega)
    have pf : ∀ g, AdC g S → GX8_prefixOf 21 (S (26 + v)) d g = some (prf S (S (26 + v)) d, g) := by
      intro g Ag
      unfold GX8_prefixOf
      rw [spanOf_ok Ag.1.2.2.2.1 f1 (by omega) d0 d1, bd_some, if_neg (by omega), gd_cons (by omega), gd_nil, Int.tdiv_eq_ediv_of_nonneg c0]
      unfold prf at *
      rw [w32_id (by omega) (by omega)]
    conv => enter [1, y, 1, h', 1, 1]; unfold GX0_sendByEntry_L6
    rw [A.2.2.2.1, if_pos (by omega), gd_ib v0 (by omega), gd_nil, show (32 : Int) + 5 = 37 from rfl, er, A.1.hf c0 c1, bd_some, gd_ib v0 (by omega), gd_nil, pf _ (A2 _), bd_some, w32_id (x := v + 1) (by omega) (by omega)]
    have same : ¬ (prf S (S (26 + v)) d = p ∧ (ent S (S (26 + v)) < 0 ∨ S (46 + 3 * ent S (S (26 + v))) ≤ d)) → ∃ y h', GX0_sendByEntry_L6 21 32 d p t (fun w1 h2 => gd [GT w1] (some (w1, h2))) q x (v + 1) (m_wr h 324 v (hol S (S (26 + v)))) = some (y, h') ∧ (y = 0 ∨ y = 1) ∧ Fr (fun a _ => a = 324) h h' ∧ (∀ i, 0 ≤ i → i < S 12 → m_rd h' 324 i = byG S d p t i) ∧ (y = 0 → ∀ i, 0 ≤ i → i < S 12 → ¬ (prf S (S (26 + i)) d = p ∧ (ent S (S (26 + i)) < 0 ∨ S (46 + 3 * ent S (S (26 + i))) ≤ d))) := by
      intro nn
      obtain ⟨y, h', e', y01, F', G', no'⟩ := ih q x (v + 1) (m_wr h 324 v (hol S (S (26 + v)))) (by omega) (by omega) (by omega) x01 (A2 _) (fun i i0 i1 => by
        by_cases c : i = v
        · rw [rd_eq rfl c, c]
          unfold byG
          rw [if_neg nn]
        · rw [rd_ne (Or.inr c)]
          exact G i i0 (by omega)) (fun z i i0 i1 => by
        by_cases c : i = v
        · rw [c]
          exact nn
        · exact no z i i0 (by omega))
      exact ⟨y, h', e', y01, (F2 _).tr F', G', no'⟩
    by_cases c : prf S (S (26 + v)) d = p
    · have Dg := (A2 (hol S (S (26 + v)))).1
      rw [if_pos c, digitsFor_ok Dg.1 Dg.2.1 Dg.2.2.1 Dg.2.2.2.1 Dg.2.2.2.2.1, bd_some]
      by_cases c2 : 0 ≤ ent S (S (26 + v)) ∧ d < S (46 + 3 * ent S (S (26 + v)))
      · rw [if_pos (show 0 ≤ S (26 + v) ∧ S (26 + v) < cod S ∧ 0 ≤ ent S (S (26 + v)) from ⟨c0, c1, c2.1⟩), if_pos c2.2]
        exact same (fun z => by omega)
      · have yes : prf S (S (26 + v)) d = p ∧ (ent S (S (26 + v)) < 0 ∨ S (46 + 3 * ent S (S (26 + v))) ≤ d) := ⟨c, by omega⟩
        have nd : ¬ d < (if 0 ≤ S (26 + v) ∧ S (26 + v) < cod S ∧ 0 ≤ ent S (S (26 + v)) then S (46 + 3 * ent S (S (26 + v))) else -1) := by
          split <;> omega
        rw [if_neg nd, gd_ib v0 (by omega), gd_nil]
        have F3 : Fr (fun a _ => a = 324) h (m_wr (m_wr h 324 v (hol S (S (26 + v)))) 324 v t) := (F2 _).wr rfl
        obtain ⟨y, h', e', y01, F', G', no'⟩ := ih q 1 (v + 1) (m_wr (m_wr h 324 v (hol S (S (26 + v)))) 324 v t) (by omega) (by omega) (by omega) (Or.inr rfl) (A.cg F3 (fun a j z => by omega)) (fun i i0 i1 => by
          by_cases ci : i = v
          · rw [rd_eq rfl ci, ci]
            unfold byG
            rw [if_pos yes]
          · rw [rd_ne (Or.inr ci), rd_ne (Or.inr ci)]
            exact G i i0 (by omega)) (fun z => absurd z (by decide))
        exact ⟨y, h', e', y01, F3.tr F', G', no'⟩
    · rw [if_neg c]
      exact same (fun z => c z.1)
theorem sendBy_ok {S : Int → Int} {B d p t : Int} {h : MH} (H : Wf B S) (f1 : S 0 = 1) (d0 : 0 ≤ d) (d1 : d ≤ S 2) (A : AdC h S) : ∃ y h', GX0_sendByEntry 21 32 d p t h = some (y, h') ∧ (y = 0 ∨ y = 1) ∧ Fr (fun a _ => a = 324) h h' ∧ (∀ i, 0 ≤ i → i < S 12 → m_rd h' 324 i = byG S d p t i) ∧ (y = 0 → ∀ i, 0 ≤ i → i < S 12 → ¬ (prf S (S (26 + i)) d = p ∧ (ent S (S (26 + i)) < 0 ∨ S (46 + 3 * ent S (S (26 + i))) ≤ d))) := by
  have n12 := H.2.2.1.1
  unfold GX0_sendByEntry
  exact sbC_L H f1 d0 d1 (S 12).toNat FU 0 0 h (by unfold FU; omega) (by omega) (by omega) (Or.inl rfl) A (fun i i0 i1 => by omega) (fun _ i i0 i1 => by omega)
theorem BR.up {h : MH} {a d p t x y : Int} : BR (m_wr (m_wr (m_wr (m_wr (m_wr h a 0 x) a 1 y) a 2 d) a 3 p) a 4 t) a (x, y, d, p, t) := by
  refine ⟨?_, ?_, ?_, ?_, ?_⟩
  · simp (disch := omega) only [w32_id, rd_eq, rd_ne, cp_in, cp_out, lc_lt, lc_gt, lc_eq]
  · simp (disch := omega) only [w32_id, rd_eq, rd_ne, cp_in, cp_out, lc_lt, lc_gt, lc_eq]
  · simp (disch := omega) only [w32_id, rd_eq, rd_ne, cp_in, cp_out, lc_lt, lc_gt, lc_eq]
  · simp (disch := omega) only [w32_id, rd_eq, rd_ne, cp_in, cp_out, lc_lt, lc_gt, lc_eq]
  · simp (disch := omega) only [w32_id, rd_eq, rd_ne, cp_in, cp_out, lc_lt, lc_gt, lc_eq]
theorem tpC_L {S : Int → Int} {B d p : Int} (H : Wf B S) (f1 : S 0 = 1) (d0 : 0 ≤ d) (d1 : d ≤ S 2) : ∀ (m f : Nat) (v : Int) (b : B5) (h : MH), m < f → v + m = S 3 → 0 ≤ v → AdC h S → BR h 323 b → leq (trF (asG S) S) b → ∃ h', GX0_tryPrefix_L3 21 32 d p (fun h1 => some h1) (fun h2 => some h2) f v h = some h' ∧ Fr (fun a _ => 323 ≤ a ∧ a < 326) h h' ∧ BR h' 323 (pfF S d p m v b) := by
  have n12 := H.2.2.1.1
  have fw := frw H.1 f1
  intro m
  induction m with
  | zero =>
    intro f v b h hf hv v0 A R l
    obtain ⟨q, rfl⟩ : ∃ q, f = q + 1 := ⟨f - 1, by omega⟩
    conv => enter [1, h', 1, 1]; unfold GX0_tryPrefix_L3
    rw [A.1.2.2.2.1.2.2.1, if_neg (by omega)]
    exact ⟨h, rfl, Fr.rf, R⟩
  | succ m ih =>
    intro f v b h hf hv v0 A R l
    obtain ⟨q, rfl⟩ : ∃ q, f = q + 1 := ⟨f - 1, by omega⟩
    obtain ⟨y, h1, e1, y01, F1, G1, no⟩ := sendBy_ok (d := d) (p := p) (t := v) H f1 d0 d1 A
    have A1 := A.cg F1 (fun a j z => by omega)
    conv => enter [1, h', 1, 1]; unfold GX0_tryPrefix_L3
    rw [A.1.2.2.2.1.2.2.1, if_pos (by omega), e1, bd_some]
    by_cases c : y = 0
    · rw [if_pos c]
      refine ⟨h1, rfl, F1.wk (fun a j z => by omega), ?_⟩
      rw [pfF_no (fun t i i0 i1 => by unfold byG asG; rw [if_neg (no c i i0 i1)]) n12.1 (m + 1) v b l]
      exact R.cg (fun j _ _ => F1.rd (by omega))
    · obtain ⟨h3, e3, F3, a1, a2⟩ := tryGoals_ok (G := byG S d p v) H f1 A1.1.2.2.2.1 A1.2 G1
      have A3 := A1.cg F3 (fun a j z => by unfold FtG at z; omega)
      have R3 : BR h3 323 b := R.cg (fun j _ _ => by rw [F3.rd (by unfold FtG; omega), F1.rd (by omega)])
      have F13 : Fr (fun a _ => 323 ≤ a ∧ a < 326) h h3 := (F1.wk (fun a j z => by omega)).tr (F3.wk (fun a j z => by unfold FtG at z; omega))
      rw [if_neg c, e3, bv_some, w32_id (x := v + 1) (by omega) (by omega)]
      simp only [jn, hl]
      rw [rd_ne (b := 323) (j := 13) (by omega), a1, a2, R3.1, R3.2.1]
      have yes : ((trF (byG S d p v) S).1 < b.1 ∨ ((trF (byG S d p v) S).1 = b.1 ∧ (trF (byG S d p v) S).2.1 < b.2.1)) → ∃ h', GX0_tryPrefix_L3 21 32 d p (fun h1 => some h1) (fun h2 => some h2) q (v + 1) (m_wr (m_wr (m_wr (m_wr (m_wr h3 323 0 (trF (byG S d p v) S).1) 323 1 (trF (byG S d p v) S).2.1) 323 2 d) 323 3 p) 323 4 v) = some h' ∧ Fr (fun a _ => 323 ≤ a ∧ a < 326) h h' ∧ BR h' 323 (pfF S d p (m + 1) v b) := by
        intro z
        have F4 : Fr (fun a _ => 323 ≤ a ∧ a < 326) h3 (m_wr (m_wr (m_wr (m_wr (m_wr h3 323 0 (trF (byG S d p v) S).1) 323 1 (trF (byG S d p v) S).2.1) 323 2 d) 323 3 p) 323 4 v) := ((((Fr.rf.wr (by omega)).wr (by omega)).wr (by omega)).wr (by omega)).wr (by omega)
        have ue : upb d p v (trF (byG S d p v) S) b = ((trF (byG S d p v) S).1, (trF (byG S d p v) S).2.1, d, p, v) := by
          unfold upb
          rw [if_pos z]
        obtain ⟨h', e', F', R'⟩ := ih q (v + 1) (upb d p v (trF (byG S d p v) S) b) _ (by omega) (by omega) (by omega) (A3.cg F4 (fun a j z => by omega)) (by rw [ue]; exact BR.up) (upb_leq l)
        exact ⟨h', e', (F13.tr F4).tr F', R'⟩
      have nope : ¬ ((trF (byG S d p v) S).1 < b.1 ∨ ((trF (byG S d p v) S).1 = b.1 ∧ (trF (byG S d p v) S).2.1 < b.2.1)) → ∃ h', GX0_tryPrefix_L3 21 32 d p (fun h1 => some h1) (fun h2 => some h2) q (v + 1) h3 = some h' ∧ Fr (fun a _ => 323 ≤ a ∧ a < 326) h h' ∧ BR h' 323 (pfF S d p (m + 1) v b) := by
        intro z
        have ue : upb d p v (trF (byG S d p v) S) b = b := by
          unfold upb
          rw [if_neg z]
        obtain ⟨h', e', F', R'⟩ := ih q (v + 1) b h3 (by omega) (by omega) (by omega) A3 R3 l
        refine ⟨h', e', F13.tr F', ?_⟩
        show BR h' 323 (pfF S d p m (v + 1) (upb d p v (trF (byG S d p v) S) b))
        rw [ue]
        exact R'
      by_cases c1 : (trF (byG S d p v) S).1 < b.1
      · rw [if_pos c1]
        exact yes (Or.inl c1)
      rw [if_neg c1]
      by_cases c2 : (trF (byG S d p v) S).1 = b.1
      · rw [if_pos c2]
        by_cases c3 : (trF (byG S d p v) S).2.1 < b.2.1
        · rw [if_pos c3]
          exact yes (Or.inr ⟨c2, c3⟩)
        · rw [if_neg c3]
          exact nope (by omega)
      · rw [if_neg c2]
        exact nope (by omega)
/-- all prefixes of so many digits -/
def dgF (S : Int → Int) (d : Int) : Nat → Int → B5 → B5
  | 0, _, b => b
  | m + 1, p, b => dgF S d m (p + 1) (pfA S d p b)
def dgA (S : Int → Int) : Nat → Int → B5 → B5
  | 0, _, b => b
  | m + 1, d, b => dgA S m (d + 1) (dgF S d (pw (S 1) d).toNat 0 b)
theorem dgF_leq {S : Int → Int} {d : Int} {x : Int × Int × (Int → Int)} : ∀ (m : Nat) (p : Int) (b : B5), leq x b → leq x (dgF S d m p b) := by
  intro m
  induction m with
  | zero =>
    intro p b l
    exact l
  | succ m ih =>
    intro p b l
    exact ih (p + 1) _ (pfA_leq l)
theorem canTake_ok2 {t d p : Int} {S : Int → Int} {h : MH} (R : PlR h t S) (n0 : 0 ≤ S 13) (n13 : S 13 ≤ 12) : GX4_canTake t d p h = some (if num S d p < 12 then 1 else 0, h) := by
  have nf := num_f (S := S) (d := d) (p := p) n0
  unfold GX4_canTake
  rw [R.1, find_ok R n0 n13, bd_some]
  by_cases c : S 13 < 12
  · rw [if_pos c, if_pos (by omega)]
  · rw [if_neg c]
    by_cases c2 : num S d p < S 13
    · rw [if_pos c2, if_neg (by omega), if_pos (by omega)]
    · rw [if_neg c2, if_pos rfl, if_neg (by omega)]
theorem seC19 {S : Int → Int} {B d : Int} {K : MH → Option MH} (H : Wf B S) (f1 : S 0 = 1) (d0 : 0 ≤ d) (d1 : d ≤ S 2) : ∀ (m f : Nat) (v : Int) (b : B5) (h : MH), m < f → v + m = pw (S 1) d → 0 ≤ v → AdC h S → BR h 323 b → leq (trF (asG S) S) b → ∃ h', GX0_seekEntry_L19 21 32 d K f v h = K h' ∧ Fr (fun a _ => 323 ≤ a ∧ a < 326) h h' ∧ BR h' 323 (dgF S d m v b) := by
  have fw := frw H.1 f1
  have n13 := H.2.1.1
  have pb := pw_b (b := S 1) (n := d) (by omega) (by omega) d0 (by omega)
  have pe : ∀ h, AdC h S → GX8_prefixesOf 21 d h = some (pw (S 1) d, h) := by
    intro h A
    unfold GX8_prefixesOf
    rw [if_neg (by omega), if_neg (by omega), gd_ib d0 (by omega), gd_nil, A.1.2.2.2.1.2.2.2.2.1 d d0 (by omega), if_pos f1]
  intro m
  induction m with
  | zero =>
    intro f v b h hf hv v0 A R l
    obtain ⟨q, rfl⟩ : ∃ q, f = q + 1 := ⟨f - 1, by omega⟩
    conv => enter [1, h', 1, 1]; unfold GX0_seekEntry_L19
    rw [pe h A, bd_some, if_neg (by omega)]
    exact ⟨h, rfl, Fr.rf, R⟩
  | succ m ih =>
    intro f v b h hf hv v0 A R l
    obtain ⟨q, rfl⟩ : ∃ q, f = q + 1 := ⟨f - 1, by omega⟩
    conv => enter [1, h', 1, 1]; unfold GX0_seekEntry_L19
    rw [pe h A, bd_some, if_pos (by omega), canTake_ok2 (t := 32 + 1) A.2.2.2.2.1 n13.1 n13.2, bd_some, w32_id (x := v + 1) (by omega) (by omega)]
    show ∃ h', _ = _ ∧ _ ∧ BR h' 323 (dgF S d m (v + 1) (pfA S d v b))
    by_cases c : num S d v < 12
    · rw [if_neg (by rw [t01]; exact fun z => z c)]
      obtain ⟨h5, e5, F5, R5⟩ := tpC_L (d := d) (p := v) H f1 d0 d1 (S 3).toNat FU 0 b h (by unfold FU; omega) (by omega) (by omega) A R l
      rw [show GX0_tryPrefix 21 32 d v h = some h5 from e5, bv_some]
      have pa : pfA S d v b = pfF S d v (S 3).toNat 0 b := by
        unfold pfA
        rw [if_pos c]
      obtain ⟨h', e', F', R'⟩ := ih q (v + 1) (pfA S d v b) h5 (by omega) (by omega) (by omega) (A.cg F5 (fun a j z => by omega)) (by rw [pa]; exact R5) (pfA_leq l)
      exact ⟨h', e', F5.tr F', R'⟩
    · rw [if_pos (by rw [t01]; exact c)]
      have pa : pfA S d v b = b := by
        unfold pfA
        rw [if_neg c]
      rw [pa]
      exact ih q (v + 1) b h (by omega) (by omega) (by omega) A R l
theorem seC8 {S : Int → Int} {B : Int} {K : MH → Option MH} (H : Wf B S) (f1 : S 0 = 1) : ∀ (m f : Nat) (v : Int) (b : B5) (h : MH), m < f → v + m = S 2 + 1 → 0 ≤ v → AdC h S → BR h 323 b → leq (trF (asG S) S) b → ∃ h', GX0_seekEntry_L8 21 32 K f v h = K h' ∧ Fr (fun a _ => 323 ≤ a ∧ a < 326) h h' ∧ BR h' 323 (dgA S m v b) := by
  have fw := frw H.1 f1
  intro m
  induction m with
  | zero =>
    intro f v b h hf hv v0 A R l
    obtain ⟨q, rfl⟩ : ∃ q, f = q + 1 := ⟨f - 1, by omega⟩
    conv => enter [1, h', 1, 1]; unfold GX0_seekEntry_L8
    rw [A.1.2.2.2.1.2.1, if_pos (by omega)]
    exact ⟨h, rfl, Fr.rf, R⟩
  | succ m ih =>
    intro f v b h hf hv v0 A R l
    obtain ⟨q, rfl⟩ : ∃ q, f = q + 1 := ⟨f - 1, by omega⟩
    have pb := pw_b (b := S 1) (n := v) (by omega) (by omega) v0 (by omega)
    conv => enter [1, h', 1, 1]; unfold GX0_seekEntry_L8
    obtain ⟨h1, e1, F1, R1⟩ := seC19 (d := v) (K := fun h1 => GX0_seekEntry_L8 21 32 K q (m_w32 (v + 1)) h1) H f1 v0 (by omega) (pw (S 1) v).toNat FU 0 b h (by unfold FU; omega) (by omega) (by omega) A R l
    rw [A.1.2.2.2.1.2.1, if_neg (by omega), e1, w32_id (x := v + 1) (by omega) (by omega)]
    obtain ⟨h', e', F', R'⟩ := ih q (v + 1) (dgF S v (pw (S 1) v).toNat 0 b) h1 (by omega) (by omega) (by omega) (A.cg F1 (fun a j z => by omega)) R1 (dgF_leq _ _ _ l)
    exact ⟨h', e', F1.tr F', R'⟩
/-- where it begins -/
def b50 (S : Int → Int) : B5 := ((trF (asG S) S).1, (trF (asG S) S).2.1, -1, -1, -1)
theorem leq_0 {S : Int → Int} : leq (trF (asG S) S) (b50 S) := Or.inr ⟨rfl, Int.le_refl _⟩
theorem seekEntry_ok {S : Int → Int} {B : Int} {h : MH} (H : Wf B S) (f1 : S 0 = 1) (A : AdC h S) : ∃ h', GX0_seekEntry 21 32 h = some h' ∧ Fr (fun a _ => 323 ≤ a ∧ a < 326) h h' ∧ BR h' 323 (dgA S (S 2 + 1).toNat 0 (b50 S)) := by
  have fw := frw H.1 f1
  obtain ⟨h1, e1, F1, R1, _⟩ := tryAsIs_ok H f1 A
  unfold GX0_seekEntry
  rw [e1, bv_some]
  obtain ⟨h', e', F', R'⟩ := seC8 (K := fun h2 => some h2) H f1 (S 2 + 1).toNat FU 0 (b50 S) h1 (by unfold FU; omega) (by omega) (by omega) (A.cg F1 (fun a j z => by omega)) R1 leq_0
  exact ⟨h', e', F1.tr F', R'⟩
/-! the reference -/
def FoM (a j : Int) : Prop := FsA a j ∨ a = 351
theorem triesM {S : Int → Int} {B d p t : Int} {h : MH} {b : B5} (H : Wf B S) (hB : B ≤ 5000) (f1 : S 0 = 1) (d0 : 0 ≤ d) (d1 : d ≤ S 2) (p0 : 0 ≤ p) (p1 : p < pw (S 1) d) (t0 : 0 ≤ t) (t1 : t < S 3) (sg : m_rd h 344 = S) (kp : ∀ k, 0 ≤ k → k < 72 → m_rd h 350 k = S (10 + k)) (R : BR h 351 b) : ∃ h', GX12_triesEntry d p t h = some h' ∧ Fr FoM h h' ∧ m_rd h' 344 = S ∧ BR h' 351 (if num S d p < 12 then upb d p t (trF (byG S d p t) S) b else b) := by
  obtain ⟨F, E, W, x1, x2, x3⟩ := id H
  have fw := frw F f1
  have n13 := E.1
  have pb := pw_b (b := S 1) (n := d) (by omega) (by omega) d0 (by omega)
  have ce : GX12_canEnter d p t h = some (if num S d p < 12 then 1 else 0, h) := by
    unfold GX12_canEnter
    rw [isFrame_ok, bd_some, sg, if_neg (by rw [t01]; exact fun z => z f1), in_ok, bd_some, if_neg (by rw [t01]; omega), isHole_ok, bd_some, sg, if_neg (by rw [t01]; omega), power_ok (by omega) (by omega) d0 (by omega), bd_some, w32_id (by omega) (by omega), in_ok, bd_some, if_neg (by rw [t01]; omega), numberOf_ok (by rw [sg]; exact n13.1) (by rw [sg]; exact n13.2), bd_some, sg]
    by_cases c : num S d p < 12
    · rw [if_pos c, if_pos c]
    · rw [if_neg c, if_neg c]
  unfold GX12_triesEntry
  rw [ce, bd_some]
  by_cases c : num S d p < 12
  · rw [if_neg (by rw [t01]; exact fun z => z c), if_pos c]
    obtain ⟨h3, e3, F3, s3⟩ := enters_ok (d := d) (p := p) (x := t) (h := h) (by rw [sg]; exact n13.1) (by rw [sg]; exact n13.2) (by rw [sg]; exact c)
    rw [sg] at e3 s3
    have W3 := en_wf H f1 d0 d1 p0 p1 t0 t1 c
    have nf := num_f (S := S) (d := d) (p := p) n13.1
    have ag : ∀ k, (k < 46 ∧ k ≠ 13) ∨ 82 ≤ k → enS d p t S k = S k := fun k z => en_o n13.1 (by omega) (by omega)
    obtain ⟨h5, e5, F5, s5, a1, a2⟩ := sortsAll_ok (S := S) s3 ag W3.1 W3.2.1 W3.2.2.1 (by rw [ag 0 (by omega)]; exact f1) (by rw [ag 11 (by omega)]; exact x1) (by rw [ag 11 (by omega)]; omega) (fun k k0 k1 => by rw [F3.rd (by omega)]; exact kp k k0 k1)
    have te : trF (fun v => hol (enS d p t S) (S (26 + v))) S = trF (byG S d p t) S := tr_cg W.1.1 (fun v v0 v1 => hol_en H W3.2.1)
    rw [te] at a1 a2
    rw [e3, bd_some, e5, bv_some]
    have R5 : BR h5 351 b := R.cg (fun j _ _ => by rw [F5.rd (by unfold FsA; omega), F3.rd (by omega)])
    have F35 : Fr FoM h h5 := (F3.wk (fun a j z => by unfold FoM FsA; omega)).tr (F5.wk (fun a j z => Or.inl z))
    simp only [jn, hl]
    rw [rd_ne (b := 334) (j := 32) (by omega), a1, a2, R5.1, R5.2.1]
    have F6 : Fr FoM h5 (m_wr (m_wr (m_wr (m_wr (m_wr h5 351 0 (trF (byG S d p t) S).1) 351 1 (trF (byG S d p t) S).2.1) 351 2 d) 351 3 p) 351 4 t) := ((((Fr.rf.wr (Or.inr rfl)).wr (Or.inr rfl)).wr (Or.inr rfl)).wr (Or.inr rfl)).wr (Or.inr rfl)
    have s6 : m_rd (m_wr (m_wr (m_wr (m_wr (m_wr h5 351 0 (trF (byG S d p t) S).1) 351 1 (trF (byG S d p t) S).2.1) 351 2 d) 351 3 p) 351 4 t) 344 = S := by
      rw [rd_fo (by decide), rd_fo (by decide), rd_fo (by decide), rd_fo (by decide), rd_fo (by decide), s5]
    have yes : ((trF (byG S d p t) S).1 < b.1 ∨ ((trF (byG S d p t) S).1 = b.1 ∧ (trF (byG S d p t) S).2.1 < b.2.1)) → upb d p t (trF (byG S d p t) S) b = ((trF (byG S d p t) S).1, (trF (byG S d p t) S).2.1, d, p, t) := fun z => by
      unfold upb
      rw [if_pos z]
    have nope : ¬ ((trF (byG S d p t) S).1 < b.1 ∨ ((trF (byG S d p t) S).1 = b.1 ∧ (trF (byG S d p t) S).2.1 < b.2.1)) → upb d p t (trF (byG S d p t) S) b = b := fun z => by
      unfold upb
      rw [if_neg z]
    by_cases c1 : b.1 < (trF (byG S d p t) S).1
    · rw [if_pos c1, nope (by omega)]
      exact ⟨h5, rfl, F35, s5, R5⟩
    rw [if_neg c1]
    by_cases c2 : (trF (byG S d p t) S).1 = b.1
    · rw [if_pos c2]
      by_cases c3 : (trF (byG S d p t) S).2.1 < b.2.1
      · rw [if_pos c3, yes (Or.inr ⟨c2, c3⟩)]
        exact ⟨_, rfl, F35.tr F6, s6, BR.up⟩
      · rw [if_neg c3, nope (by omega)]
        exact ⟨h5, rfl, F35, s5, R5⟩
    · rw [if_neg c2, yes (by omega)]
      exact ⟨_, rfl, F35.tr F6, s6, BR.up⟩
  · rw [if_pos (by rw [t01]; exact c), if_neg c]
    exact ⟨h, rfl, Fr.rf, sg, R⟩
theorem pfA_s {S : Int → Int} {d p : Int} {m : Nat} {t : Int} {b : B5} : (if num S d p < 12 then pfF S d p (m + 1) t b else b) = (if num S d p < 12 then pfF S d p m (t + 1) (if num S d p < 12 then upb d p t (trF (byG S d p t) S) b else b) else (if num S d p < 12 then upb d p t (trF (byG S d p t) S) b else b)) := by
  by_cases c : num S d p < 12
  · rw [if_pos c, if_pos c, if_pos c]
    rfl
  · rw [if_neg c, if_neg c, if_neg c]
theorem onM101 {S : Int → Int} {B d p u : Int} {K : MH → Option (Int × MH)} (H : Wf B S) (hB : B ≤ 5000) (f1 : S 0 = 1) (d0 : 0 ≤ d) (d1 : d ≤ S 2) (p0 : 0 ≤ p) (p1 : p < pw (S 1) d) : ∀ (m f : Nat) (v : Int) (b : B5) (h : MH), m < f → v + m = S 3 → 0 ≤ v → m_rd h 344 = S → (∀ k, 0 ≤ k → k < 72 → m_rd h 350 k = S (10 + k)) → BR h 351 b → ∃ h', GX12_one_L101 u d p K f v h = K h' ∧ Fr FoM h h' ∧ m_rd h' 344 = S ∧ BR h' 351 (if num S d p < 12 then pfF S d p m v b else b) := by
  have fw := frw H.1 f1
  intro m
  induction m with
  | zero =>
    intro f v b h hf hv v0 sg kp R
    obtain ⟨q, rfl⟩ : ∃ q, f = q + 1 := ⟨f - 1, by omega⟩
    conv => enter [1, h', 1, 1]; unfold GX12_one_L101
    rw [sg, if_neg (by omega)]
    refine ⟨h, rfl, Fr.rf, sg, ?_⟩
    split
    · exact R
    · exact R
  | succ m ih =>
    intro f v b h hf hv v0 sg kp R
    obtain ⟨q, rfl⟩ : ∃ q, f = q + 1 := ⟨f - 1, by omega⟩
    conv => enter [1, h', 1, 1]; unfold GX12_one_L101
    obtain ⟨h1, e1, F1, s1, R1⟩ := triesM H hB f1 d0 d1 p0 p1 v0 (show v < S 3 by omega) sg kp R
    rw [sg, if_pos (by omega), e1, bv_some, w32_id (x := v + 1) (by omega) (by omega), pfA_s]
    obtain ⟨h', e', F', s', R'⟩ := ih q (v + 1) _ h1 (by omega) (by omega) (by omega) s1 (fun k k0 k1 => by rw [F1.rd (by unfold FoM FsA; omega)]; exact kp k k0 k1) R1
    exact ⟨h', e', F1.tr F', s', R'⟩
theorem onM84 {S : Int → Int} {B d u : Int} {K : MH → Option (Int × MH)} (H : Wf B S) (hB : B ≤ 5000) (f1 : S 0 = 1) (d0 : 0 ≤ d) (d1 : d ≤ S 2) : ∀ (m f : Nat) (v : Int) (b : B5) (h : MH), m < f → v + m = pw (S 1) d → 0 ≤ v → m_rd h 344 = S → (∀ k, 0 ≤ k → k < 72 → m_rd h 350 k = S (10 + k)) → BR h 351 b → ∃ h', GX12_one_L84 u d K f v h = K h' ∧ Fr FoM h h' ∧ m_rd h' 344 = S ∧ BR h' 351 (dgF S d m v b) := by
  have fw := frw H.1 f1
  have pb := pw_b (b := S 1) (n := d) (by omega) (by omega) d0 (by omega)
  intro m
  induction m with
  | zero =>
    intro f v b h hf hv v0 sg kp R
    obtain ⟨q, rfl⟩ : ∃ q, f = q + 1 := ⟨f - 1, by omega⟩
    conv => enter [1, h', 1, 1]; unfold GX12_one_L84
    rw [sg, power_ok (by omega) (by omega) d0 (by omega), bd_some, if_neg (by omega)]
    exact ⟨h, rfl, Fr.rf, sg, R⟩
  | succ m ih =>
    intro f v b h hf hv v0 sg kp R
    obtain ⟨q, rfl⟩ : ∃ q, f = q + 1 := ⟨f - 1, by omega⟩
    conv => enter [1, h', 1, 1]; unfold GX12_one_L84
    obtain ⟨h1, e1, F1, s1, R1⟩ := onM101 (u := u) (K := fun h3 => GX12_one_L84 u d K q (m_w32 (v + 1)) h3) H hB f1 d0 d1 v0 (show v < pw (S 1) d by omega) (S 3).toNat FU 0 b h (by unfold FU; omega) (by omega) (by omega) sg kp R
    rw [sg, power_ok (by omega) (by omega) d0 (by omega), bd_some, if_pos (by omega), e1, w32_id (x := v + 1) (by omega) (by omega)]
    obtain ⟨h', e', F', s', R'⟩ := ih q (v + 1) (pfA S d v b) h1 (by omega) (by omega) (by omega) s1 (fun k k0 k1 => by rw [F1.rd (by unfold FoM FsA; omega)]; exact kp k k0 k1) R1
    exact ⟨h', e', F1.tr F', s', R'⟩
theorem onM72 {S : Int → Int} {B u : Int} {K : MH → Option (Int × MH)} (H : Wf B S) (hB : B ≤ 5000) (f1 : S 0 = 1) : ∀ (m f : Nat) (v : Int) (b : B5) (h : MH), m < f → v + m = S 2 + 1 → 0 ≤ v → m_rd h 344 = S → (∀ k, 0 ≤ k → k < 72 → m_rd h 350 k = S (10 + k)) → BR h 351 b → ∃ h', GX12_one_L72 u K f v h = K h' ∧ Fr FoM h h' ∧ m_rd h' 344 = S ∧ BR h' 351 (dgA S m v b) := by
  have fw := frw H.1 f1
  intro m
  induction m with
  | zero =>
    intro f v b h hf hv v0 sg kp R
    obtain ⟨q, rfl⟩ : ∃ q, f = q + 1 := ⟨f - 1, by omega⟩
    conv => enter [1, h', 1, 1]; unfold GX12_one_L72
    rw [sg, if_pos (by omega)]
    exact ⟨h, rfl, Fr.rf, sg, R⟩
  | succ m ih =>
    intro f v b h hf hv v0 sg kp R
    obtain ⟨q, rfl⟩ : ∃ q, f = q + 1 := ⟨f - 1, by omega⟩
    have pb := pw_b (b := S 1) (n := v) (by omega) (by omega) v0 (by omega)
    conv => enter [1, h', 1, 1]; unfold GX12_one_L72
    obtain ⟨h1, e1, F1, s1, R1⟩ := onM84 (u := u) (d := v) (K := fun h1 => GX12_one_L72 u K q (m_w32 (v + 1)) h1) H hB f1 v0 (by omega) (pw (S 1) v).toNat FU 0 b h (by unfold FU; omega) (by omega) (by omega) sg kp R
    rw [sg, if_neg (by omega), e1, w32_id (x := v + 1) (by omega) (by omega)]
    obtain ⟨h', e', F', s', R'⟩ := ih q (v + 1) (dgF S v (pw (S 1) v).toNat 0 b) h1 (by omega) (by omega) (by omega) s1 (fun k k0 k1 => by rw [F1.rd (by unfold FoM FsA; omega)]; exact kp k k0 k1) R1
    exact ⟨h', e', F1.tr F', s', R'⟩
theorem on52 {u : Int} {K : MH → Option (Int × MH)} {h : MH} : GX12_one_L52 u K FU 2 h = K (m_wr (m_wr (m_wr h 351 2 (-1)) 351 3 (-1)) 351 4 (-1)) := by
  rw [show FU = 1996 + 1 + 1 + 1 + 1 from rfl]
  conv => lhs; unfold GX12_one_L52
  rw [if_pos (by decide), gd_ib (by decide) (by decide), gd_nil, show m_w32 (2 + 1) = 3 from rfl]
  conv => lhs; unfold GX12_one_L52
  rw [if_pos (by decide), gd_ib (by decide) (by decide), gd_nil, show m_w32 (3 + 1) = 4 from rfl]
  conv => lhs; unfold GX12_one_L52
  rw [if_pos (by decide), gd_ib (by decide) (by decide), gd_nil, show m_w32 (4 + 1) = 5 from rfl]
  conv => lhs; unfold GX12_one_L52
  rw [if_neg (by decide)]
theorem adNow {h g : MH} (H : Inv h) (F : Fr (fun a j => a = 306 ∨ (a = 298 ∧ (j = 0 ∨ j = 1))) h g) (D : Dr g (m_rd h 344)) : AdC g (m_rd h 344) := ⟨D, WkR.cg (h := h) H.2.2.2.1.1.2.2.1 (fun a j z1 z2 => F.rd (by omega))⟩
theorem c_one (u : Int) : Call (GX11_one u) (GX12_one u) := by
  intro h H
  obtain ⟨⟨d1, d2, d3, d4, d5, d6, d7⟩, w1, w2, w3, w4, w5, w6, w7⟩ := H.2.2.2.1
  have bad : m_rd h 344 0 = 1 → ¬ (0 ≤ u ∧ u ≤ 4) → Wi (GX12_one u h) (fun w h2 => -2 = w ∧ Inv h2) := by
    intro f1 c
    unfold GX12_one
    exact wi_be isFrame_ok (wi_in (by rw [t01]; exact fun z => z f1) (wi_be in_ok (wi_ip (by rw [t01]; exact c) (wi_ret ⟨rfl, H⟩))))
  unfold GX11_one
  refine wi_be (hasFrame_ok H) ?_
  by_cases f1 : m_rd h 344 0 = 1
  · refine wi_in (by rw [t01]; exact fun z => z f1) ?_
    by_cases u0 : u < 0
    · exact wi_ip u0 (wi_ret (bad f1 (by omega)))
    refine wi_in u0 ?_
    by_cases u1 : 4 < u
    · exact wi_ip u1 (wi_ret (bad f1 (by omega)))
    refine wi_in u1 ?_
    have fw := frw w1.1 f1
    obtain ⟨g, e, F, D, I⟩ := drawNow_ok H
    obtain ⟨h4, e4, F4, R4⟩ := seekEntry_ok w1 f1 (adNow H F D)
    refine wi_bw e (wi_bw e4 ?_)
    have I4 : Inv h4 := I.scr (F4.wk (fun a j z => by unfold Scr; omega))
    have s4 : m_rd h4 344 = m_rd h 344 := by
      rw [← D.2.2.2.2.2]
      exact funext fun j => F4.rd (by omega)
    obtain ⟨b, hb⟩ : ∃ b, b = dgA (m_rd h 344) (m_rd h 344 2 + 1).toNat 0 (b50 (m_rd h 344)) := ⟨_, rfl⟩
    rw [← hb] at R4
    have mod : ∀ v, (u = 0 → v = b.1) → (u = 1 → v = b.2.1) → (u = 2 → v = b.2.2.1) → (u = 3 → v = b.2.2.2.1) → (u = 4 → v = b.2.2.2.2) → Wi (GX12_one u h4) (fun w h2 => v = w ∧ Inv h2) := by
      intro v v0 v1 v2 v3 v4
      obtain ⟨g5, x5, G5, kp⟩ := keeps_ok (h := h4)
      have s5 : m_rd g5 344 = m_rd h 344 := by
        rw [← s4]
        exact funext fun j => G5.rd (by omega)
      obtain ⟨g6, x6, G6, s6, a1, a2⟩ := sortsAll_ok (S := m_rd h 344) s5 (fun _ _ => rfl) w1.1 w1.2.1 w1.2.2.1 f1 w1.2.2.2.1 (by have := w1.2.2.2; omega) (fun k k0 k1 => by rw [kp k k0 k1, s4])
      unfold GX12_one
      refine wi_be isFrame_ok (wi_in (by rw [t01, s4]; exact fun z => z f1) (wi_be in_ok (wi_in (by rw [t01]; omega) (wi_bw x5 (wi_bw x6 (wi_hl ?_))))))
      rw [rd_ne (b := 334) (j := 32) (by omega), a1, a2]
      refine wi_rw on52 ?_
      obtain ⟨g7, e7⟩ : ∃ g7, g7 = m_wr (m_wr (m_wr (m_wr (m_wr g6 351 0 (trF (fun v => hol (m_rd h 344) (m_rd h 344 (26 + v))) (m_rd h 344)).1) 351 1 (trF (fun v => hol (m_rd h 344) (m_rd h 344 (26 + v))) (m_rd h 344)).2.1) 351 2 (-1)) 351 3 (-1)) 351 4 (-1) := ⟨_, rfl⟩
      rw [← e7]
      have G7 : Fr (fun a _ => a = 351) g6 g7 := by
        rw [e7]
        refine ((((Fr.rf.wr ?_).wr ?_).wr ?_).wr ?_).wr ?_ <;> rfl
      have R7 : BR g7 351 (b50 (m_rd h 344)) := by
        rw [e7]
        exact BR.up
      obtain ⟨g8, x8, G8, s8, R8⟩ := onM72 (u := u) (K := fun h9 => gd [IB u 5] (some (m_rd h9 351 u, h9))) w1 (by omega) f1 (m_rd h 344 2 + 1).toNat FU 0 (b50 (m_rd h 344)) g7 (by unfold FU; omega) (by omega) (by omega) (by rw [← s6]; exact funext fun j => G7.rd (by omega)) (fun k k0 k1 => by rw [G7.rd (by omega), G6.rd (by unfold FsA; omega), kp k k0 k1, s4]) R7
      rw [← hb] at R8
      refine wi_rw x8 (wi_ib (by omega) (by omega) (wi_gn (wi_ret ⟨?_, ?_⟩)))
      · have hu : u = 0 ∨ u = 1 ∨ u = 2 ∨ u = 3 ∨ u = 4 := by omega
        rcases hu with z | z | z | z | z
        · rw [z, R8.1]
          exact v0 z
        · rw [z, R8.2.1]
          exact v1 z
        · rw [z, R8.2.2.1]
          exact v2 z
        · rw [z, R8.2.2.2.1]
          exact v3 z
        · rw [z, R8.2.2.2.2]
          exact v4 z
      · refine I4.scr (Fr.back ?_ (by rw [s8, s4]) ?_)
        · exact (((G5.wk (fun a j z => by unfold Scr; omega)).tr (G6.wk (fun a j z => by unfold FsA at z; unfold Scr; omega))).tr (G7.wk (fun a j z => by unfold Scr; omega))).tr (G8.wk (fun a j z => by unfold FoM FsA at z; unfold Scr; omega))
        · rw [G8.rd (by unfold FoM FsA; omega), G7.rd (by omega), G6.rd (by unfold FsA; omega), G5.rd (by omega)]
    refine wi_it (fun z => wi_ret (mod _ (fun _ => R4.1) ?_ ?_ ?_ ?_)) (fun z0 => ?_)
    · intro y
      omega
    · intro y
      omega
    · intro y
      omega
    · intro y
      omega
    refine wi_it (fun z => wi_ret (mod _ ?_ (fun _ => R4.2.1) ?_ ?_ ?_)) (fun z1 => ?_)
    · intro y
      omega
    · intro y
      omega
    · intro y
      omega
    · intro y
      omega
    refine wi_it (fun z => wi_ret (mod _ ?_ ?_ (fun _ => R4.2.2.1) ?_ ?_)) (fun z2 => ?_)
    · intro y
      omega
    · intro y
      omega
    · intro y
      omega
    · intro y
      omega
    refine wi_it (fun z => wi_ret (mod _ ?_ ?_ ?_ (fun _ => R4.2.2.2.1) ?_)) (fun z3 => ?_)
    · intro y
      omega
    · intro y
      omega
    · intro y
      omega
    · intro y
      omega
    refine wi_ret (mod _ ?_ ?_ ?_ ?_ (fun _ => R4.2.2.2.2))
    · intro y
      omega
    · intro y
      omega
    · intro y
      omega
    · intro y
      omega
  · refine wi_ip (by rw [t01]; exact f1) (wi_ret ?_)
    unfold GX12_one
    exact wi_be isFrame_ok (wi_ip (by rw [t01]; exact f1) (wi_ret ⟨rfl, H⟩))
