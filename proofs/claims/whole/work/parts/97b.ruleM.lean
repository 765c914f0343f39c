/-! RULE read by the model: the stack -/
def Mu1 (k a j : Int) : Prop := Mu0 k a j ∨ (a = 334 ∧ (j = 13 ∨ j = 16)) ∨ a = 341
theorem Mu0.u1 {k a j : Int} (z : Mu0 k a j) : Mu1 k a j := Or.inl z
def stR (h : MH) : List Int → Prop
  | [] => True
  | a :: l => (a = 11 ∨ a = 12 ∨ a = 13 ∨ a = 91) ∧ m_rd h 341 (l.length : Int) = a ∧ stR h l
def stD : List Int → Int
  | [] => 0
  | a :: l => stD l + (if a = 11 ∨ a = 91 then 1 else 0)
def StK (h : MH) (l : List Int) : Prop := m_rd h 334 16 = (l.length : Int) ∧ stR h l ∧ m_rd h 334 13 = stD l
def stg (a : Int) : Int := if a = 13 then 1 else if a = 12 then 2 else if a = 11 then 3 else 0
def dcd (a : Int) : Int := if a = 11 then -32 else if a = 12 then -30 else -31
theorem len_c {a : Int} {l : List Int} : ((a :: l).length : Int) = (l.length : Int) + 1 := by
  rw [List.length_cons]
  omega
theorem stD_b : ∀ l : List Int, 0 ≤ stD l ∧ stD l ≤ (l.length : Int) := by
  intro l
  induction l with
  | nil => exact ⟨Int.le_refl _, Int.le_refl _⟩
  | cons a l ih =>
    rw [len_c]
    unfold stD
    split <;> omega
theorem stR.cg {h h' : MH} : ∀ (l : List Int), (∀ j, 0 ≤ j → j < (l.length : Int) → m_rd h' 341 j = m_rd h 341 j) → stR h l → stR h' l := by
  intro l
  induction l with
  | nil => exact fun _ _ => trivial
  | cons a l ih =>
    intro e H
    rw [len_c] at e
    exact ⟨H.1, by rw [e _ (by omega) (by omega)]; exact H.2.1, ih (fun j j0 j1 => e j j0 (by omega)) H.2.2⟩
theorem StK.fr {P : Int → Int → Prop} {h h' : MH} {l : List Int} (S : StK h l) (F : Fr P h h') (no : ∀ a j, P a j → ¬ (a = 334 ∧ (j = 13 ∨ j = 16)) ∧ a ≠ 341) : StK h' l := by
  obtain ⟨s1, s2, s3⟩ := S
  refine ⟨?_, stR.cg l (fun j _ _ => F.rd (fun y => by have := no _ _ y; omega)) s2, ?_⟩
  · rw [F.rd (fun y => by have := no _ _ y; omega)]
    exact s1
  · rw [F.rd (fun y => by have := no _ _ y; omega)]
    exact s3
theorem StK.f8 {h h' : MH} {l : List Int} (S : StK h l) (F : Fr F348 h h') : StK h' l := S.fr F (fun a j z => by unfold F348 at z; omega)
theorem StK.f0 {k : Int} {h h' : MH} {l : List Int} (S : StK h l) (F : Fr (Mu0 k) h h') : StK h' l := S.fr F (fun a j z => by unfold Mu0 at z; omega)
theorem strengthU {a : Int} {h : MH} : GX12_strength a h = some (stg a, h) := by
  unfold GX12_strength stg
  (repeat' split) <;> rfl
theorem stR_in {h : MH} : ∀ (l : List Int), stR h l → (∀ i, 0 ≤ i → i < (l.length : Int) → m_rd h 341 i ∈ l) ∧ (∀ a, a ∈ l → ∃ i, 0 ≤ i ∧ i < (l.length : Int) ∧ m_rd h 341 i = a) := by
  intro l
  induction l with
  | nil =>
    intro _
    refine ⟨fun i i0 i1 => ?_, fun a z => absurd z (List.not_mem_nil)⟩
    rw [List.length_nil] at i1
    omega
  | cons a l ih =>
    intro H
    obtain ⟨x1, x2⟩ := ih H.2.2
    rw [len_c]
    refine ⟨fun i i0 i1 => ?_, fun c z => ?_⟩
    · by_cases c : i = (l.length : Int)
      · rw [c, H.2.1]
        exact List.mem_cons_self
      · exact List.mem_cons_of_mem _ (x1 i i0 (by omega))
    · rcases List.mem_cons.1 z with z | z
      · exact ⟨l.length, by omega, by omega, by rw [H.2.1, z]⟩
      · obtain ⟨i, i0, i1, e⟩ := x2 c z
        exact ⟨i, i0, by omega, e⟩
theorem insideU_L {h : MH} {t : Int} {K0 K1 : MH → Option (Int × MH)} (ht : m_rd h 334 16 = t) (t1 : t ≤ 400) : ∀ (m f : Nat) (v : Int), m < f → v + m = t → 0 ≤ v → ((∃ i, v ≤ i ∧ i < t ∧ m_rd h 341 i = 91) → GX12_isInside_L2 K0 K1 f v h = K0 h) ∧ ((∀ i, v ≤ i → i < t → m_rd h 341 i ≠ 91) → GX12_isInside_L2 K0 K1 f v h = K1 h) := by
  intro m
  induction m with
  | zero =>
    intro f v hf hv v0
    obtain ⟨q, rfl⟩ : ∃ q, f = q + 1 := ⟨f - 1, by omega⟩
    unfold GX12_isInside_L2
    rw [ht, if_neg (by omega)]
    exact ⟨fun ⟨i, i0, i1, _⟩ => by omega, fun _ => rfl⟩
  | succ m ih =>
    intro f v hf hv v0
    obtain ⟨q, rfl⟩ : ∃ q, f = q + 1 := ⟨f - 1, by omega⟩
    obtain ⟨i1, i2⟩ := ih q (v + 1) (by omega) (by omega) (by omega)
    unfold GX12_isInside_L2
    rw [ht, if_pos (by omega), gd_ib v0 (by omega), gd_nil, w32_id (x := v + 1) (by omega) (by omega)]
    by_cases c : m_rd h 341 v = 91
    · rw [if_pos c]
      exact ⟨fun _ => rfl, fun z => absurd c (z v (Int.le_refl _) (by omega))⟩
    · rw [if_neg c]
      refine ⟨fun ⟨i, a0, a1, a2⟩ => i1 ⟨i, ?_, a1, a2⟩, fun z => i2 (fun i a0 a1 => z i (by omega) a1)⟩
      by_cases d : i = v
      · rw [d] at a2
        exact absurd a2 c
      · omega
theorem insideU {h : MH} {l : List Int} (S : StK h l) (l1 : (l.length : Int) ≤ 400) : (91 ∈ l → GX12_isInside h = some (1, h)) ∧ (91 ∉ l → GX12_isInside h = some (0, h)) := by
  obtain ⟨x1, x2⟩ := stR_in l S.2.1
  obtain ⟨y1, y2⟩ := insideU_L (K0 := fun h1 => some (1, h1)) (K1 := fun h2 => some (0, h2)) S.1 l1 l.length FU 0 (by unfold FU; omega) (by omega) (by omega)
  unfold GX12_isInside
  refine ⟨fun z => ?_, fun z => y2 (fun i i0 i1 w => z (w ▸ x1 i i0 i1))⟩
  obtain ⟨i, i0, i1, e⟩ := x2 91 z
  exact y1 ⟨i, i0, i1, e⟩
/-- what is pushed -/
theorem pushU {B : Int → Int} {n k a : Int} {x : RST} {h : MH} {l : List Int} (M : MRu h B n k x) (S : StK h l) (ha : a = 12 ∨ a = 13) : Fr (Mu1 k) h (m_wr (m_wr h 341 (l.length : Int) a) 334 16 ((l.length : Int) + 1)) ∧ MRu (m_wr (m_wr h 341 (l.length : Int) a) 334 16 ((l.length : Int) + 1)) B n k x ∧ StK (m_wr (m_wr h 341 (l.length : Int) a) 334 16 ((l.length : Int) + 1)) (a :: l) := by
  have F : Fr (fun b j => (b = 341 ∧ j = (l.length : Int)) ∨ (b = 334 ∧ j = 16)) h (m_wr (m_wr h 341 (l.length : Int) a) 334 16 ((l.length : Int) + 1)) := Fr.wr (Fr.wr Fr.rf (by omega)) (by omega)
  refine ⟨F.wk (fun a j z => by unfold Mu1; omega), M.fr F (fun a j z => by omega) (by rw [F.rd (by omega)]; exact M.2.1) M.p0 M.p1, by rw [rd_eq rfl rfl, len_c], ⟨by omega, by rw [rd_a (by decide), rd_eq rfl rfl], stR.cg l (fun j j0 j1 => F.rd (by omega)) S.2.1⟩, ?_⟩
  rw [F.rd (by omega), S.2.2]
  show stD l = stD l + (if a = 11 ∨ a = 91 then 1 else 0)
  rw [if_neg (by omega)]
  omega
theorem opensU {B : Int → Int} {n k a : Int} {x : RST} {h : MH} {l : List Int} (b : BB B n) (M : MRu h B n k x) (S : StK h l) (ha : a = 11 ∨ a = 91) (l1 : (l.length : Int) < 400) : ∃ v h', GX12_opens a h = some (v, h') ∧ Fr (Mu1 k) h h' ∧ (stD l = 10 → v = 0 ∧ m_rd h' 334 9 = 1 + 8 * x.1 + 2) ∧ (stD l ≠ 10 → v = 1 ∧ MRu h' B n k x ∧ StK h' (a :: l)) := by
  have b1 := b.2.1
  have p0 := M.p0
  have p1 := M.p1
  have db := stD_b l
  unfold GX12_opens
  simp only [hl]
  rw [S.2.2, show m_rd h 334 8 = x.1 from M.2.1]
  by_cases c : stD l = 10
  · rw [if_pos c, failM (by omega) (by omega) (by decide) (by decide) M.2.2.1, bd_some, gd_cons (show GT 0 from Or.inl rfl), gd_nil]
    exact ⟨0, _, rfl, Fr.wr Fr.rf (Or.inl (Or.inl ⟨rfl, by omega⟩)), fun _ => ⟨rfl, rd_eq rfl rfl⟩, fun z => absurd c z⟩
  · have F1 : Fr (fun b j => b = 334 ∧ j = 13) h (m_wr h 334 13 (stD l + 1)) := Fr.wr Fr.rf ⟨rfl, rfl⟩
    have F2 : Fr (fun b j => (b = 334 ∧ j = 13) ∨ b = 341) h (m_wr (m_wr h 334 13 (stD l + 1)) 341 (l.length : Int) a) := Fr.wr (Fr.wr Fr.rf (by omega)) (by omega)
    rw [if_neg c, w32_id (x := stD l + 1) (by omega) (by omega), F1.rd (x := 334) (j := 16) (by omega), S.1, gd_ib (by omega) l1, gd_nil, F2.rd (x := 334) (j := 16) (by omega), S.1, w32_id (x := (l.length : Int) + 1) (by omega) (by omega)]
    have F : Fr (fun b j => (b = 341 ∧ j = (l.length : Int)) ∨ (b = 334 ∧ (j = 13 ∨ j = 16))) h (m_wr (m_wr (m_wr h 334 13 (stD l + 1)) 341 (l.length : Int) a) 334 16 ((l.length : Int) + 1)) := Fr.wr (Fr.wr (Fr.wr Fr.rf (by omega)) (by omega)) (by omega)
    refine ⟨1, _, rfl, F.wk (fun a j z => by unfold Mu1; omega), fun z => absurd z c, fun _ => ⟨rfl, M.fr F (fun a j z => by omega) (by rw [F.rd (by omega)]; exact M.2.1) M.p0 M.p1, by rw [rd_eq rfl rfl, len_c], ⟨by omega, by rw [rd_a (by decide), rd_eq rfl rfl], stR.cg l (fun j j0 j1 => F.rd (by omega)) S.2.1⟩, ?_⟩⟩
    rw [rd_ne (by omega), rd_ne (by omega), rd_eq rfl rfl]
    show stD l + 1 = stD l + (if a = 11 ∨ a = 91 then 1 else 0)
    rw [if_pos ha]
/-- one sign laid down -/
theorem layS {B : Int → Int} {n k u a : Int} {x : RST} {h : MH} {l : List Int} {K : MH → Option MH} {f : Nat} (M : MRu h B n k x) (S : StK h (a :: l)) (u0 : 1 ≤ u) (ua : u ≤ stg a) (l1 : (l.length : Int) < 400) (s0 : 0 ≤ x.2.1) (s1 : x.2.1 < 400) : ∃ h', GX12_layDown_L0 u K (f + 1) h = GX12_layDown_L0 u K f h' ∧ Fr (Mu1 k) h h' ∧ MRu h' B n k (pu (dcd a) x) ∧ StK h' l := by
  obtain ⟨q1, q2, q3⟩ := S
  rw [len_c] at q1
  have db := stD_b l
  have ea : a = 11 ∨ a = 12 ∨ a = 13 := by
    rcases q2.1 with z | z | z | z
    · omega
    · omega
    · omega
    · rw [z] at ua
      have : stg 91 = 0 := by decide
      omega
  have F1 : Fr (fun b j => b = 334 ∧ j = 16) h (m_wr h 334 16 (l.length : Int)) := Fr.wr Fr.rf ⟨rfl, rfl⟩
  have M1 : MRu (m_wr h 334 16 (l.length : Int)) B n k x := M.fr F1 (fun a j z => by omega) (by rw [F1.rd (by omega)]; exact M.2.1) M.p0 M.p1
  have ee : a + 16 * 0 = enc (dcd a) := by
    rcases ea with z | z | z <;> subst z <;> decide
  obtain ⟨h2, e2, F2, M2⟩ := putU (a1 := a) (a2 := 0) (c := dcd a) M1 s0 s1 ee (by omega) (by omega) (by omega) (by omega)
  have G2 : Fr (Mu1 k) h h2 := (F1.wk (fun a j z => by unfold Mu1; omega)).tr (F2.wk (fun a j z => (put_mu s0 s1 z).u1))
  have r16 : m_rd h2 334 16 = (l.length : Int) := by
    rw [F2.rd (by omega), rd_eq rfl rfl]
  have r341 : ∀ j, m_rd h2 341 j = m_rd h 341 j := fun j => by rw [F2.rd (by omega), F1.rd (by omega)]
  have r13 : m_rd h2 334 13 = stD (a :: l) := by
    rw [F2.rd (by omega), F1.rd (by omega)]
    exact q3
  conv => enter [1, h', 1, 1]; unfold GX12_layDown_L0
  rw [q1, if_pos (by omega), w32_id (x := (l.length : Int) + 1 - 1) (by omega) (by omega), show (l.length : Int) + 1 - 1 = (l.length : Int) by omega, gd_ib (by omega) l1, gd_nil, strengthU, bd_some, q2.2.1, if_neg (by omega), q1, show (l.length : Int) + 1 - 1 = (l.length : Int) by omega, w32_id (x := (l.length : Int)) (by omega) (by omega), rd_eq rfl rfl, gd_ib (by omega) l1, gd_nil, rd_a (by decide), q2.2.1, e2, bv_some, r16, gd_ib (by omega) l1, gd_nil, r341, q2.2.1, r13]
  by_cases c : a = 11
  · have d : stD (a :: l) = stD l + 1 := by
      show stD l + (if a = 11 ∨ a = 91 then 1 else 0) = stD l + 1
      rw [if_pos (Or.inl c)]
    have F3 : Fr (fun b j => b = 334 ∧ j = 13) h2 (m_wr h2 334 13 (stD l)) := Fr.wr Fr.rf ⟨rfl, rfl⟩
    rw [if_pos c, d, show stD l + 1 - 1 = stD l by omega, w32_id (x := stD l) (by omega) (by omega)]
    refine ⟨_, rfl, G2.tr (F3.wk (fun a j z => by unfold Mu1; omega)), M2.fr F3 (fun a j z => by omega) (by rw [F3.rd (by omega)]; exact M2.2.1) M2.p0 M2.p1, ?_, stR.cg l (fun j _ _ => ?_) q2.2.2, rd_eq rfl rfl⟩
    · rw [F3.rd (by omega)]
      exact r16
    · rw [F3.rd (by omega), r341]
  · have d : stD (a :: l) = stD l := by
      show stD l + (if a = 11 ∨ a = 91 then 1 else 0) = stD l
      rw [if_neg (by omega)]
      omega
    rw [if_neg c]
    exact ⟨h2, rfl, G2, M2, r16, stR.cg l (fun j _ _ => r341 j) q2.2.2, by rw [r13, d]⟩
theorem layE {h : MH} {l : List Int} {u : Int} {K : MH → Option MH} {f : Nat} (S : StK h l) (l1 : (l.length : Int) ≤ 400) (z : l = [] ∨ ∃ a t, l = a :: t ∧ stg a < u) : GX12_layDown_L0 u K (f + 1) h = K h := by
  obtain ⟨q1, q2, q3⟩ := S
  unfold GX12_layDown_L0
  rw [q1]
  rcases z with z | ⟨a, t, z, ua⟩
  · subst z
    rw [if_neg (by decide)]
  · subst z
    rw [len_c] at l1 ⊢
    rw [if_pos (by omega), w32_id (x := (t.length : Int) + 1 - 1) (by omega) (by omega), show (t.length : Int) + 1 - 1 = (t.length : Int) by omega, gd_ib (by omega) (by omega), gd_nil, strengthU, bd_some, q2.2.1, if_pos ua]
def lay (u : Int) : List Int → RST → List Int × RST
  | [], x => ([], x)
  | a :: l, x => if stg a < u then (a :: l, x) else lay u l (pu (dcd a) x)
theorem layU {B : Int → Int} {n k u : Int} {K : MH → Option MH} (u0 : 1 ≤ u) : ∀ (l : List Int) (f : Nat) (x : RST) (h : MH), l.length < f → MRu h B n k x → StK h l → 0 ≤ x.2.1 → x.2.1 + (l.length : Int) ≤ 400 → ∃ h', GX12_layDown_L0 u K f h = K h' ∧ Fr (Mu1 k) h h' ∧ MRu h' B n k (lay u l x).2 ∧ StK h' (lay u l x).1 := by
  intro l
  induction l with
  | nil =>
    intro f x h hf M S s0 s1
    obtain ⟨q, rfl⟩ : ∃ q, f = q + 1 := ⟨f - 1, by omega⟩
    exact ⟨h, layE S (by decide) (Or.inl rfl), Fr.rf, M, S⟩
  | cons a l ih =>
    intro f x h hf M S s0 s1
    rw [List.length_cons] at hf
    rw [len_c] at s1
    obtain ⟨q, rfl⟩ : ∃ q, f = q + 1 := ⟨f - 1, by omega⟩
    unfold lay
    by_cases c : stg a < u
    · rw [if_pos c]
      exact ⟨h, layE S (by rw [len_c]; omega) (Or.inr ⟨a, l, rfl, c⟩), Fr.rf, M, S⟩
    · rw [if_neg c]
      obtain ⟨h1, e1, F1, M1, S1⟩ := layS (K := K) (f := q) M S u0 (by omega) (by omega) s0 (by omega)
      obtain ⟨h2, e2, F2, M2, S2⟩ := ih q (pu (dcd a) x) h1 (by omega) M1 S1 (by show 0 ≤ x.2.1 + 1; omega) (by show x.2.1 + 1 + (l.length : Int) ≤ 400; omega)
      exact ⟨h2, by rw [e1, e2], F1.tr F2, M2, S2⟩
