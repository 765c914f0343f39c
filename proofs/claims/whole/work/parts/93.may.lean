/-! READINGS -/
def rdg (r : Int) : Nat → Int → Bool
  | 0, x => decide (x = 0)
  | n + 1, x => if x % 10 = 9 ∨ x % 10 < r then rdg r n (x / 10) else false
def mkF : Nat → Int → Int → Int
  | 0, _, _ => 0
  | n + 1, x, k => if k = n then x % 10 else mkF n (x / 10) k
theorem rdg_mk {r : Int} : ∀ (n : Nat) (x : Int), rdg r n x = true → ∀ k : Int, 0 ≤ k → k < (n : Int) → 0 ≤ mkF n x k ∧ (mkF n x k = 9 ∨ mkF n x k < r) := by
  intro n
  induction n with
  | zero =>
    intro x hx k k0 k1
    omega
  | succ n ih =>
    intro x hx k k0 k1
    unfold rdg at hx
    by_cases c : x % 10 = 9 ∨ x % 10 < r
    · rw [if_pos c] at hx
      show 0 ≤ (if k = (n : Int) then x % 10 else mkF n (x / 10) k) ∧ ((if k = (n : Int) then x % 10 else mkF n (x / 10) k) = 9 ∨ (if k = (n : Int) then x % 10 else mkF n (x / 10) k) < r)
      by_cases ck : k = (n : Int)
      · rw [if_pos ck]
        omega
      · rw [if_neg ck]
        exact ih (x / 10) hx k k0 (by omega)
    · rw [if_neg c] at hx
      exact absurd hx (by decide)
theorem rdg_t {r x : Int} {n : Nat} (c : x % 10 = 9 ∨ x % 10 < r) : rdg r (n + 1) x = rdg r n (x / 10) := if_pos c
theorem rdg_f {r x : Int} {n : Nat} (c : ¬ (x % 10 = 9 ∨ x % 10 < r)) : rdg r (n + 1) x = false := if_neg c
theorem mk_h {n : Nat} {x : Int} : mkF (n + 1) x n = x % 10 := if_pos rfl
theorem mk_l {n : Nat} {x k : Int} (c : k ≠ n) : mkF (n + 1) x k = mkF n (x / 10) k := if_neg c
theorem tr_L {S : Int → Int} {t : Int} : ∀ (n f : Nat) (x : Int) (h : MH), n < f → 0 ≤ x → x ≤ 2147483647 → n ≤ 4 → m_rd h 298 0 = t → t ≠ 307 → TO h t 8 → m_rd h t 0 = S 1 → ∃ h', GX1_takeReading_L28 (fun h1 => some (0, h1)) (fun w2 h3 => if w2 = 0 then some (1, h3) else some (0, h3)) f x ((n : Int) - 1) h = some (if rdg (S 1) n x = true then 1 else 0, h') ∧ Fr (fun a _ => a = 307) h h' ∧ (rdg (S 1) n x = true → ∀ k : Int, 0 ≤ k → k < (n : Int) → m_rd h' 307 k = mkF n x k) ∧ ∀ k, (n : Int) ≤ k → m_rd h' 307 k = m_rd h 307 k := by
  intro n
  induction n with
  | zero =>
    intro f x h hf x0 x1 n4 c0 ct T r0
    obtain ⟨q, rfl⟩ : ∃ q, f = q + 1 := ⟨f - 1, by omega⟩
    conv => enter [1, h', 1, 1]; unfold GX1_takeReading_L28
    rw [if_pos (by omega)]
    refine ⟨h, ?_, Fr.rf, fun _ k k0 k1 => by omega, fun k k0 => rfl⟩
    unfold rdg
    by_cases c : x = 0
    · rw [if_pos c, if_pos (decide_eq_true c)]
    · rw [if_neg c, if_neg (by simp [c])]
  | succ n ih =>
    intro f x h hf x0 x1 n4 c0 ct T r0
    obtain ⟨q, rfl⟩ : ∃ q, f = q + 1 := ⟨f - 1, by omega⟩
    conv => enter [1, h', 1, 1]; unfold GX1_takeReading_L28
    rw [show ((n + 1 : Nat) : Int) - 1 = (n : Int) by omega, if_neg (by omega), gd_ib (by omega) (by omega), gd_nil, gd_ib (by omega) (by omega), gd_nil, gd_ib (by omega) (by omega), rd_eq rfl rfl, rd_ne (b := 298) (Or.inl (by decide)), c0, gd_cons (show TO (m_wr h 307 (n : Int) (Int.tmod x 10)) t 8 from T), gd_nil, rd_ne (b := t) (Or.inl ct), r0, Int.tmod_eq_emod_of_nonneg x0, Int.tdiv_eq_ediv_of_nonneg x0, w32_id (x := x / 10) (by omega) (by omega), w32_id (x := (n : Int) + (-1)) (by omega) (by omega)]
    obtain ⟨h', e, F, m1, m2⟩ := ih q (x / 10) (m_wr h 307 n (x % 10)) (by omega) (by omega) (by omega) (by omega) (by rw [rd_ne (Or.inl (by decide))]; exact c0) ct T (by rw [rd_ne (Or.inl ct)]; exact r0)
    rw [show (n : Int) + -1 = (n : Int) - 1 by omega]
    by_cases c : x % 10 = 9 ∨ x % 10 < S 1
    · rw [rdg_t c]
      refine ⟨h', ?_, Fr.tr (Fr.wr Fr.rf rfl) F, fun hr k k0 k1 => ?_, fun k k0 => ?_⟩
      · by_cases c9 : x % 10 = 9
        · rw [if_pos c9]
          exact e
        · rw [if_neg c9, if_pos (by omega)]
          exact e
      · by_cases ck : k = (n : Int)
        · rw [ck, m2 _ (by omega), rd_eq rfl rfl, mk_h]
        · rw [mk_l ck]
          exact m1 hr k k0 (by omega)
      · rw [m2 k (by omega), rd_ne (by omega)]
    · rw [rdg_f c, if_neg (by omega), if_neg (by omega)]
      refine ⟨_, rfl, Fr.wr Fr.rf rfl, fun hr => absurd hr (by decide), fun k k0 => ?_⟩
      rw [rd_ne (by omega)]
theorem ir_L {S : Int → Int} : ∀ (n f : Nat) (x : Int) (h : MH), n < f → 0 ≤ x → x ≤ 2147483647 → n ≤ 4 → m_rd h 344 = S → ∃ h', GX12_isReading_L24 (fun h3 => some (0, h3)) (fun w4 h5 => if w4 = 0 then some (1, h5) else some (0, h5)) f x ((n : Int) - 1) h = some (if rdg (S 1) n x = true then 1 else 0, h') ∧ Fr (fun a _ => a = 346) h h' ∧ (rdg (S 1) n x = true → ∀ k : Int, 0 ≤ k → k < (n : Int) → m_rd h' 346 k = mkF n x k) ∧ ∀ k, (n : Int) ≤ k → m_rd h' 346 k = m_rd h 346 k := by
  intro n
  induction n with
  | zero =>
    intro f x h hf x0 x1 n4 c0
    obtain ⟨q, rfl⟩ : ∃ q, f = q + 1 := ⟨f - 1, by omega⟩
    conv => enter [1, h', 1, 1]; unfold GX12_isReading_L24
    rw [if_pos (by omega)]
    refine ⟨h, ?_, Fr.rf, fun _ k k0 k1 => by omega, fun k k0 => rfl⟩
    unfold rdg
    by_cases c : x = 0
    · rw [if_pos c, if_pos (decide_eq_true c)]
    · rw [if_neg c, if_neg (by simp [c])]
  | succ n ih =>
    intro f x h hf x0 x1 n4 c0
    obtain ⟨q, rfl⟩ : ∃ q, f = q + 1 := ⟨f - 1, by omega⟩
    conv => enter [1, h', 1, 1]; unfold GX12_isReading_L24
    rw [show ((n + 1 : Nat) : Int) - 1 = (n : Int) by omega, if_neg (by omega), gd_ib (by omega) (by omega), gd_nil, gd_ib (by omega) (by omega), gd_nil, gd_ib (by omega) (by omega), gd_nil, rd_eq rfl rfl, rd_ne (b := 344) (Or.inl (by decide)), c0, Int.tmod_eq_emod_of_nonneg x0, Int.tdiv_eq_ediv_of_nonneg x0, w32_id (x := x / 10) (by omega) (by omega), w32_id (x := (n : Int) + (-1)) (by omega) (by omega)]
    obtain ⟨h', e, F, m1, m2⟩ := ih q (x / 10) (m_wr h 346 n (x % 10)) (by omega) (by omega) (by omega) (by omega) (by rw [rd_fo (by decide)]; exact c0)
    rw [show (n : Int) + -1 = (n : Int) - 1 by omega]
    by_cases c : x % 10 = 9 ∨ x % 10 < S 1
    · rw [rdg_t c]
      refine ⟨h', ?_, Fr.tr (Fr.wr Fr.rf rfl) F, fun hr k k0 k1 => ?_, fun k k0 => ?_⟩
      · by_cases c9 : x % 10 = 9
        · rw [if_pos c9]
          exact e
        · rw [if_neg c9, if_pos (by omega)]
          exact e
      · by_cases ck : k = (n : Int)
        · rw [ck, m2 _ (by omega), rd_eq rfl rfl, mk_h]
        · rw [mk_l ck]
          exact m1 hr k k0 (by omega)
      · rw [m2 k (by omega), rd_ne (by omega)]
    · rw [rdg_f c, if_neg (by omega), if_neg (by omega)]
      refine ⟨_, rfl, Fr.wr Fr.rf rfl, fun hr => absurd hr (by decide), fun k k0 => ?_⟩
      rw [rd_ne (by omega)]
theorem Dr.cg {g g' : MH} {S : Int → Int} (D : Dr g S) (F : Fr (fun a _ => a = 307 ∨ (346 ≤ a ∧ a < 350) ∨ a = 308 ∨ a = 309) g g') : Dr g' S := by
  obtain ⟨a1, a2, ⟨b1, b2, b3, b4, b5⟩, a4, a5, a6⟩ := D
  refine ⟨a1, a2, ⟨?_, ?_, b3.fr F, b4.fr F, fun c c0 c1 => ?_⟩, a4.cg (fun a j z1 z2 => F.rd (by omega)), a5.cg (fun a j z1 z2 => F.rd (by omega)), ?_⟩
  · rw [F.rd (by omega)]
    exact b1
  · rw [F.rd (by omega)]
    exact b2
  · rw [F.rd (by omega)]
    exact b5 c c0 c1
  · rw [← a6]
    exact funext fun j => F.rd (by omega)
/-- whether a number is a reading -/
def okR (S : Int → Int) (x : Int) : Prop := S 0 = 1 ∧ 0 ≤ x ∧ rdg (S 1) (S 2).toNat x = true
def mrk (S : Int → Int) (x k : Int) : Int := mkF (S 2).toNat x k
theorem mrk_b {S : Int → Int} {x k : Int} (o : okR S x) (F : WfF S) (k0 : 0 ≤ k) (k1 : k < S 2) : 0 ≤ mrk S x k ∧ (mrk S x k = 9 ∨ mrk S x k < S 1) := by
  have fb := F.b
  exact rdg_mk _ _ o.2.2 k k0 (by omega)
theorem takeReading_ok {g : MH} {S : Int → Int} {x : Int} (D : Dr g S) (x1 : x ≤ 2147483647) : ∃ b g', GX1_takeReading x g = some (b, g') ∧ Fr (fun a _ => a = 307) g g' ∧ (b = 0 ∨ b = 1) ∧ (b = 1 ↔ okR S x) ∧ (b = 1 → ∀ k, 0 ≤ k → k < S 2 → m_rd g' 307 k = mrk S x k) := by
  have cb := cod_b D.1
  have fb := D.1.b
  unfold GX1_takeReading
  rw [D.2.2.1.1, gd_cons D.2.2.1.2.2.1, gd_nil, D.2.2.2.1.2.2.2.1]
  by_cases c : S 0 = 1
  · have := cb.2.2.2 c
    rw [if_neg (by omega)]
    by_cases cx : x < 0
    · rw [if_pos cx]
      exact ⟨0, g, rfl, Fr.rf, Or.inl rfl, ⟨fun z => absurd z (by decide), fun z => absurd z.2.1 (by omega)⟩, fun z => absurd z (by decide)⟩
    rw [if_neg cx, gd_cons D.2.2.1.2.2.1, gd_nil, D.2.2.2.1.2.1, w32_id (by omega) (by omega)]
    obtain ⟨g', e, F, m1, m2⟩ := tr_L (S := S) (t := 21) (S 2).toNat FU x g (by unfold FU; omega) (by omega) x1 (by omega) D.2.2.1.1 (by decide) D.2.2.1.2.2.1 D.2.2.2.1.1
    rw [show (((S 2).toNat : Nat) : Int) = S 2 by omega] at e m1
    refine ⟨_, g', e, F, ?_, ?_, ?_⟩
    · split
      · exact Or.inr rfl
      · exact Or.inl rfl
    · unfold okR
      by_cases cr : rdg (S 1) (S 2).toNat x = true
      · rw [if_pos cr]
        exact ⟨fun _ => ⟨c, by omega, cr⟩, fun _ => rfl⟩
      · rw [if_neg cr]
        exact ⟨fun z => absurd z (by decide), fun z => absurd z.2.2 cr⟩
    · intro hb k k0 k1
      by_cases cr : rdg (S 1) (S 2).toNat x = true
      · exact m1 cr k k0 k1
      · rw [if_neg cr] at hb
        exact absurd hb (by decide)
  · rw [if_pos (show cod S = 0 by
      have := cb.2.2.1
      by_cases z : 0 < cod S
      · exact absurd (this z) c
      · omega)]
    exact ⟨0, g, rfl, Fr.rf, Or.inl rfl, ⟨fun z => absurd z (by decide), fun z => absurd z.1 c⟩, fun z => absurd z (by decide)⟩
theorem isReading_ok {g : MH} {S : Int → Int} {x : Int} (sg : m_rd g 344 = S) (F0 : WfF S) (x1 : x ≤ 2147483647) : ∃ b g', GX12_isReading x g = some (b, g') ∧ Fr (fun a _ => a = 346) g g' ∧ (b = 0 ∨ b = 1) ∧ (b = 1 ↔ okR S x) ∧ (b = 1 → ∀ k, 0 ≤ k → k < S 2 → m_rd g' 346 k = mrk S x k) := by
  have fb := F0.b
  unfold GX12_isReading
  rw [isFrame_ok, bd_some, sg]
  by_cases c : S 0 = 1
  · rw [if_pos c, if_neg (by decide)]
    by_cases cx : x < 0
    · rw [if_pos cx]
      exact ⟨0, g, rfl, Fr.rf, Or.inl rfl, ⟨fun z => absurd z (by decide), fun z => absurd z.2.1 (by omega)⟩, fun z => absurd z (by decide)⟩
    rw [if_neg cx, w32_id (by omega) (by omega)]
    obtain ⟨g', e, F, m1, m2⟩ := ir_L (S := S) (S 2).toNat FU x g (by unfold FU; omega) (by omega) x1 (by omega) sg
    rw [show (((S 2).toNat : Nat) : Int) = S 2 by omega] at e m1
    refine ⟨_, g', e, F, ?_, ?_, ?_⟩
    · split
      · exact Or.inr rfl
      · exact Or.inl rfl
    · unfold okR
      by_cases cr : rdg (S 1) (S 2).toNat x = true
      · rw [if_pos cr]
        exact ⟨fun _ => ⟨c, by omega, cr⟩, fun _ => rfl⟩
      · rw [if_neg cr]
        exact ⟨fun z => absurd z (by decide), fun z => absurd z.2.2 cr⟩
    · intro hb k k0 k1
      by_cases cr : rdg (S 1) (S 2).toNat x = true
      · exact m1 cr k k0 k1
      · rw [if_neg cr] at hb
        exact absurd hb (by decide)
  · rw [if_neg c, if_pos rfl]
    exact ⟨0, g, rfl, Fr.rf, Or.inl rfl, ⟨fun z => absurd z (by decide), fun z => absurd z.1 c⟩, fun z => absurd z (by decide)⟩
/-- the digit of a code at a place, 0 the first -/
def dgt (S : Int → Int) (c k : Int) : Int := c / pw (S 1) (S 2 - 1 - k) % S 1
/-- whether a code can be meant by marks -/
def meF (S : Int → Int) (mk : Int → Int) (c : Int) : Nat → Int → Bool
  | 0, _ => true
  | m + 1, k => if mk k = 9 ∨ mk k = dgt S c k then meF S mk c m (k + 1) else false
theorem meF_t {S : Int → Int} {mk : Int → Int} {c k : Int} {m : Nat} (z : mk k = 9 ∨ mk k = dgt S c k) : meF S mk c (m + 1) k = meF S mk c m (k + 1) := if_pos z
theorem meF_f {S : Int → Int} {mk : Int → Int} {c k : Int} {m : Nat} (z : ¬ (mk k = 9 ∨ mk k = dgt S c k)) : meF S mk c (m + 1) k = false := if_neg z
theorem meF_iff {S : Int → Int} {mk : Int → Int} {c : Int} : ∀ (m : Nat) (k : Int), meF S mk c m k = true ↔ ∀ j, k ≤ j → j < k + m → mk j = 9 ∨ mk j = dgt S c j := by
  intro m
  induction m with
  | zero =>
    intro k
    exact ⟨fun _ j j0 j1 => by omega, fun _ => rfl⟩
  | succ m ih =>
    intro k
    by_cases z : mk k = 9 ∨ mk k = dgt S c k
    · rw [meF_t z, ih]
      refine ⟨fun a j j0 j1 => ?_, fun a j j0 j1 => a j (by omega) (by omega)⟩
      by_cases cj : j = k
      · rw [cj]
        exact z
      · exact a j (by omega) (by omega)
    · rw [meF_f z]
      exact ⟨fun a => absurd a (by decide), fun a => absurd (a k (by omega) (by omega)) z⟩
def mea (S : Int → Int) (x c : Int) : Bool := meF S (mrk S x) c (S 2).toNat 0
theorem isMeant_L {g : MH} {S : Int → Int} {x c : Int} (D : Dr g S) (f1 : S 0 = 1) (c0 : 0 ≤ c) (c1 : c < cod S) (mk : ∀ k, 0 ≤ k → k < S 2 → m_rd g 307 k = mrk S x k) : ∀ (m f : Nat) (k : Int), m < f → k + m = S 2 → 0 ≤ k → GX1_isMeant_L2 c (fun h1 => some (0, h1)) (fun h2 => some (1, h2)) f k g = some (if meF S (mrk S x) c m k = true then 1 else 0, g) := by
  have fw := frw D.1 f1
  intro m
  induction m with
  | zero =>
    intro f k hf hv k0
    obtain ⟨q, rfl⟩ : ∃ q, f = q + 1 := ⟨f - 1, by omega⟩
    conv => lhs; unfold GX1_isMeant_L2
    rw [D.2.2.1.1, gd_cons D.2.2.1.2.2.1, gd_nil, D.2.2.2.1.2.1, if_neg (by omega)]
    rfl
  | succ m ih =>
    intro f k hf hv k0
    obtain ⟨q, rfl⟩ : ∃ q, f = q + 1 := ⟨f - 1, by omega⟩
    conv => lhs; unfold GX1_isMeant_L2
    rw [D.2.2.1.1, gd_cons D.2.2.1.2.2.1, gd_nil, D.2.2.2.1.2.1, if_pos (by omega), gd_ib (by omega) (by omega), gd_nil, gd_ib (by omega) (by omega), gd_nil, gd_cons D.2.2.1.2.2.1, gd_nil, digitOf_C D.2.2.2.1 D.1 f1 c0 c1 k0 (by omega), bd_some, mk k k0 (by omega), w32_id (by omega) (by omega), ih q (k + 1) (by omega) (by omega) (by omega)]
    show (if mrk S x k = 9 then _ else if mrk S x k = dgt S c k then _ else _) = _
    by_cases z1 : mrk S x k = 9
    · rw [if_pos z1, meF_t (Or.inl z1)]
    · rw [if_neg z1]
      by_cases z2 : mrk S x k = dgt S c k
      · rw [if_pos z2, meF_t (Or.inr z2)]
      · rw [if_neg z2, meF_f (fun z => z.elim z1 z2)]
        rfl
theorem isMeant_ok {g : MH} {S : Int → Int} {x c : Int} (D : Dr g S) (f1 : S 0 = 1) (c0 : 0 ≤ c) (c1 : c < cod S) (mk : ∀ k, 0 ≤ k → k < S 2 → m_rd g 307 k = mrk S x k) : GX1_isMeant c g = some (if mea S x c = true then 1 else 0, g) := by
  have fw := frw D.1 f1
  unfold GX1_isMeant mea
  exact isMeant_L D f1 c0 c1 mk (S 2).toNat FU 0 (by unfold FU; omega) (by omega) (by omega)
theorem digitOf_M {c k : Int} {S : Int → Int} {h : MH} (sg : m_rd h 344 = S) (F : WfF S) (f1 : S 0 = 1) (c0 : 0 ≤ c) (c1 : c < cod S) (k0 : 0 ≤ k) (k1 : k < S 2) : GX12_digitOf c k h = some (dgt S c k, h) := by
  have fw := frw F f1
  have cb := cod_b F
  have pp := pw_p (b := S 1) (n := S 2 - 1 - k) (by omega)
  have d0 : 0 ≤ c / pw (S 1) (S 2 - 1 - k) := Int.ediv_nonneg c0 (by omega)
  have d1 : c / pw (S 1) (S 2 - 1 - k) ≤ c := Int.ediv_le_self _ c0
  unfold GX12_digitOf dgt
  rw [sg, w32_id (x := S 2 - 1) (by omega) (by omega), w32_id (x := S 2 - 1 - k) (by omega) (by omega), power_ok (by omega) (by omega) (by omega) (by omega), bd_some, sg, gd_cons (by omega), gd_nil, gd_cons (by omega), gd_nil, Int.tdiv_eq_ediv_of_nonneg c0, w32_id (by omega) (by omega), Int.tmod_eq_emod_of_nonneg d0]
theorem canMean_L {g : MH} {S : Int → Int} {x c : Int} (sg : m_rd g 344 = S) (F : WfF S) (f1 : S 0 = 1) (c0 : 0 ≤ c) (c1 : c < cod S) (mk : ∀ k, 0 ≤ k → k < S 2 → m_rd g 346 k = mrk S x k) : ∀ (m f : Nat) (k : Int), m < f → k + m = S 2 → 0 ≤ k → GX12_canMean_L2 c (fun h1 => some (0, h1)) (fun h2 => some (1, h2)) f k g = some (if meF S (mrk S x) c m k = true then 1 else 0, g) := by
  have fw := frw F f1
  intro m
  induction m with
  | zero =>
    intro f k hf hv k0
    obtain ⟨q, rfl⟩ : ∃ q, f = q + 1 := ⟨f - 1, by omega⟩
    conv => lhs; unfold GX12_canMean_L2
    rw [sg, if_neg (by omega)]
    rfl
  | succ m ih =>
    intro f k hf hv k0
    obtain ⟨q, rfl⟩ : ∃ q, f = q + 1 := ⟨f - 1, by omega⟩
    conv => lhs; unfold GX12_canMean_L2
    rw [sg, if_pos (by omega), gd_ib (by omega) (by omega), gd_nil, gd_ib (by omega) (by omega), gd_nil, digitOf_M sg F f1 c0 c1 k0 (by omega), bd_some, mk k k0 (by omega), w32_id (by omega) (by omega), ih q (k + 1) (by omega) (by omega) (by omega)]
    by_cases z1 : mrk S x k = 9
    · rw [if_pos z1, meF_t (Or.inl z1)]
    · rw [if_neg z1]
      by_cases z2 : mrk S x k = dgt S c k
      · rw [if_pos z2, meF_t (Or.inr z2)]
      · rw [if_neg z2, meF_f (fun z => z.elim z1 z2)]
        rfl
theorem canMean_ok {g : MH} {S : Int → Int} {x c : Int} (sg : m_rd g 344 = S) (F : WfF S) (f1 : S 0 = 1) (c0 : 0 ≤ c) (c1 : c < cod S) (mk : ∀ k, 0 ≤ k → k < S 2 → m_rd g 346 k = mrk S x k) : GX12_canMean c g = some (if mea S x c = true then 1 else 0, g) := by
  have fw := frw F f1
  unfold GX12_canMean mea
  exact canMean_L sg F f1 c0 c1 mk (S 2).toNat FU 0 (by unfold FU; omega) (by omega) (by omega)
def mayG (S : Int → Int) (x v a : Int) : Int := if mea S x v = true then (if hol S v < 0 then m_bor a 64 else m_bor a (m_shl 1 (hol S v))) else a
theorem may_C {g : MH} {S : Int → Int} {x : Int} {K : Int → MH → Option (Int × MH)} (D : Dr g S) (f1 : S 0 = 1) (mk : ∀ k, 0 ≤ k → k < S 2 → m_rd g 307 k = mrk S x k) (m f : Nat) (v a : Int) (hf : m < f) (hv : v + m = cod S) (v0 : 0 ≤ v) : GX1_meantHoles_L4 K f a v g = K (fld (mayG S x) m v a) g := by
  have cb := cod_b D.1
  refine (uploop (L := fun f b v => GX1_meantHoles_L4 K f b v g) (K := fun b => K b g) (g := mayG S x) (N := cod S) (I := fun _ _ => True) (fun f v b _ v0 v1 => ⟨?_, trivial⟩) (fun f b => ?_) m f v a hf hv v0 trivial).1
  · have hb := hol_b (c := v) D.2.1
    show GX1_meantHoles_L4 K (f + 1) b v g = _
    conv => lhs; unfold GX1_meantHoles_L4
    rw [D.2.2.1.1, gd_cons D.2.2.1.2.2.1, gd_nil, D.2.2.2.1.2.2.2.1, if_pos v1, isMeant_ok D f1 v0 v1 mk, bd_some, D.hf v0 v1, bd_some, w32_id (x := v + 1) (by omega) (by omega)]
    unfold mayG
    by_cases c : mea S x v = true
    · rw [if_neg (by rw [t01]; exact fun z => z c), if_pos c]
      by_cases c2 : hol S v < 0
      · rw [if_pos (by omega), if_pos c2]
      · rw [if_neg (by omega), if_neg c2]
    · rw [if_pos (by rw [t01]; exact c), if_neg c]
  · show GX1_meantHoles_L4 K (f + 1) b (cod S) g = _
    conv => lhs; unfold GX1_meantHoles_L4
    rw [D.2.2.1.1, gd_cons D.2.2.1.2.2.1, gd_nil, D.2.2.2.1.2.2.2.1, if_neg (by omega)]
theorem may_M {g : MH} {S : Int → Int} {x : Int} {K : Int → MH → Option (Int × MH)} (D : Dr g S) (f1 : S 0 = 1) (mk : ∀ k, 0 ≤ k → k < S 2 → m_rd g 346 k = mrk S x k) (m f : Nat) (v a : Int) (hf : m < f) (hv : v + m = cod S) (v0 : 0 ≤ v) : GX12_may_L14 K f a v g = K (fld (mayG S x) m v a) g := by
  have cb := cod_b D.1
  refine (uploop (L := fun f b v => GX12_may_L14 K f b v g) (K := fun b => K b g) (g := mayG S x) (N := cod S) (I := fun _ _ => True) (fun f v b _ v0 v1 => ⟨?_, trivial⟩) (fun f b => ?_) m f v a hf hv v0 trivial).1
  · show GX12_may_L14 K (f + 1) b v g = _
    conv => lhs; unfold GX12_may_L14
    rw [D.cm, bd_some, if_pos v1, canMean_ok D.2.2.2.2.2 D.1 f1 v0 v1 mk, bd_some, D.ho v0 (by omega), bd_some, D.ho v0 (by omega), bd_some, w32_id (x := v + 1) (by omega) (by omega)]
    unfold mayG
    by_cases c : mea S x v = true
    · rw [if_neg (by rw [t01]; exact fun z => z c), if_pos c]
      by_cases c2 : hol S v < 0
      · rw [if_pos c2, if_pos c2]
      · rw [if_neg c2, if_neg c2]
    · rw [if_pos (by rw [t01]; exact c), if_neg c]
  · show GX12_may_L14 K (f + 1) b (cod S) g = _
    conv => lhs; unfold GX12_may_L14
    rw [D.cm, bd_some, if_neg (by omega)]
theorem c_may (x : Int) (x1 : x ≤ 2147483647) : Call (GX11_may x) (GX12_may x) := by
  intro h H
  obtain ⟨g, e, F, D, I⟩ := drawNow_ok H
  obtain ⟨b, g1, e1, F1, b01, bi, mk⟩ := takeReading_ok D x1
  have D1 : Dr g1 (m_rd h 344) := D.cg (F1.wk (fun a j z => by omega))
  have I1 : Inv g1 := I.scr (F1.wk (fun a j z => by unfold Scr; omega))
  obtain ⟨b', g2, e2, F2, b01', bi', mk'⟩ := isReading_ok (x := x) D1.2.2.2.2.2 D1.1 x1
  have D2 : Dr g2 (m_rd h 344) := D1.cg (F2.wk (fun a j z => by omega))
  have I2 : Inv g2 := I1.scr (F2.wk (fun a j z => by unfold Scr; omega))
  have cb := cod_b D.1
  unfold GX11_may
  refine wi_bw e (wi_be e1 ?_)
  by_cases c : okR (m_rd h 344) x
  · have hb := bi.2 c
    have hb' := bi'.2 c
    refine wi_in (by omega) (wi_bd ?_)
    unfold GX1_meantHoles
    rw [may_C D1 c.1 (mk hb) (cod (m_rd h 344)).toNat FU 0 0 (by unfold FU; omega) (by omega) (by omega)]
    refine wi_ret (wi_ret ?_)
    unfold GX12_may
    refine wi_be e2 (wi_in (by omega) ?_)
    rw [may_M D2 c.1 (mk' hb') (cod (m_rd h 344)).toNat FU 0 0 (by unfold FU; omega) (by omega) (by omega)]
    exact wi_ret ⟨rfl, I2⟩
  · have hb : b = 0 := b01.elim id (fun z => absurd (bi.1 z) c)
    have hb' : b' = 0 := b01'.elim id (fun z => absurd (bi'.1 z) c)
    refine wi_ip hb (wi_ret ?_)
    unfold GX12_may
    exact wi_be e2 (wi_ip hb' (wi_ret ⟨rfl, I2⟩))
