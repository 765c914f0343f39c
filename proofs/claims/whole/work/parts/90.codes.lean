/-! BY THE PLAN: where, codes, idle -/
def Dr (g : MH) (S : Int → Int) : Prop := WfF S ∧ WfE S ∧ ChR g 21 33 S ∧ ShR g 21 S ∧ PlR g 33 S ∧ m_rd g 344 = S
theorem to_kk {h : MH} (H : KK h) (p c : Nat) (hp : p < 359) (e : (layL.getD p (0, 0)).1 = 100 + (c : Int)) : TO h (p : Int) c := by
  have := H.2.2 p hp
  refine ⟨?_, by omega, ?_⟩
  · unfold m_kd
    rw [this]
    exact e
  · have := H.1
    omega
theorem drawNow_ok {h : MH} (H : Inv h) : ∃ g, GX11_drawNow h = some g ∧ Fr (fun a j => a = 306 ∨ (a = 298 ∧ (j = 0 ∨ j = 1))) h g ∧ Dr g (m_rd h 344) ∧ Inv g := by
  obtain ⟨⟨d1, d2, d3, d4, d5, d6, d7⟩, w1, w2, w3, w4, w5, w6, w7⟩ := H.2.2.2.1
  have D1 : ShR h 21 (m_rd h 344) := d1
  have D3 : PlR h 33 (m_rd h 344) := d3.2.2.2.1
  obtain ⟨g, e, F, C⟩ := draw_ok w1.1 w1.2.1 D1 D3 (to_kk H.1 21 8 (by decide) rfl) (to_kk H.1 33 4 (by decide) rfl) (by omega) (by omega)
  refine ⟨g, ?_, F, ⟨w1.1, w1.2.1, C, D1.cg (fun a j z1 z2 => F.rd (by omega)), D3.cg (fun a j z1 z2 => F.rd (by omega)), funext fun j => F.rd (by omega)⟩, H.scr (F.wk (fun a j z => by unfold Scr; omega))⟩
  unfold GX11_drawNow
  rw [e, bv_some]
theorem Dr.ef {g : MH} {S : Int → Int} (D : Dr g S) {c : Int} (c0 : 0 ≤ c) (c1 : c < cod S) : GX1_entryFor c g = some (ent S c, g) := by
  rw [entryFor_ok D.1 D.2.1 D.2.2.1 D.2.2.2.1 D.2.2.2.2.1, if_pos ⟨c0, c1⟩]
theorem Dr.hf {g : MH} {S : Int → Int} (D : Dr g S) {c : Int} (c0 : 0 ≤ c) (c1 : c < cod S) : GX1_holeFor c g = some (hol S c, g) := by
  rw [holeFor_ok D.1 D.2.1 D.2.2.1 D.2.2.2.1 D.2.2.2.2.1, if_pos ⟨c0, c1⟩]
theorem Dr.ho {g : MH} {S : Int → Int} (D : Dr g S) {c : Int} (c0 : 0 ≤ c) (c1 : c ≤ 100000) : GX12_holeOf c g = some (hol S c, g) := by
  have e := D.2.2.2.2.2
  rw [holeOf_ok (by rw [e]; exact D.1) (by rw [e]; exact D.2.1) c0 c1, e]
theorem Dr.eo {g : MH} {S : Int → Int} (D : Dr g S) {c : Int} (c0 : 0 ≤ c) (c1 : c ≤ 100000) : GX12_entryOf c g = some (ent S c, g) := by
  have e := D.2.2.2.2.2
  rw [entryOf_ok (by rw [e]; exact D.1) (by rw [e]; exact D.2.1) c0 c1, e]
theorem Dr.cm {g : MH} {S : Int → Int} (D : Dr g S) : GX12_codesMany g = some (cod S, g) := by
  have e := D.2.2.2.2.2
  rw [codesMany_ok (by rw [e]; exact D.1), e]
theorem hasFrame_ok {h : MH} (H : Inv h) : GX11_hasFrame h = some (if m_rd h 344 0 = 1 then 1 else 0, h) := by
  obtain ⟨s1, s2, s3, s4, s5, s6⟩ := H.sh
  have cb := cod_b H.2.2.2.1.2.1.1
  unfold GX11_hasFrame
  rw [s4]
  by_cases c : m_rd h 344 0 = 1
  · rw [if_pos (cb.2.2.2 c), if_pos c]
  · rw [if_neg (fun z => c (cb.2.2.1 z)), if_neg c]
theorem c_where (n m : Int) : Call (GX11_where n m) (GX12_where n m) := by
  intro h H
  obtain ⟨⟨d1, d2, d3, d4, d5, d6, d7⟩, w1, w2, w3, w4, w5, w6, w7⟩ := H.2.2.2.1
  have cb := cod_b w1.1
  have n13 := w1.2.1.1
  unfold GX11_where
  rw [hasCode_ok (t := 21) d1, bd_some]
  by_cases c : 0 ≤ n ∧ n < cod (m_rd h 344)
  · rw [if_neg (by rw [t01]; exact fun z => z c)]
    by_cases m0 : m < 0
    · rw [if_pos m0]
      refine wi_ret ?_
      unfold GX12_where
      rw [isCode_ok w1.1, bd_some, if_neg (by rw [t01]; exact fun z => z c), in_ok, bd_some, if_pos (by rw [t01]; omega)]
      exact wi_ret ⟨rfl, H⟩
    rw [if_neg m0]
    by_cases m1 : 1 < m
    · rw [if_pos m1]
      refine wi_ret ?_
      unfold GX12_where
      rw [isCode_ok w1.1, bd_some, if_neg (by rw [t01]; exact fun z => z c), in_ok, bd_some, if_pos (by rw [t01]; omega)]
      exact wi_ret ⟨rfl, H⟩
    rw [if_neg m1]
    obtain ⟨g, e, F, D, I⟩ := drawNow_ok H
    have eb := ent_b (c := n) D.2.1
    refine wi_bw e ?_
    rw [D.ef c.1 c.2, bd_some]
    have sg := D.2.2.2.2.2
    have mod : Wi (GX12_where n m g) (fun w h2 => (if ent (m_rd h 344) n < 0 then -2 else if m = 0 then m_rd h 344 (48 + 3 * ent (m_rd h 344) n) else m_rd h 344 (46 + 3 * ent (m_rd h 344) n)) = w ∧ Inv h2) := by
      unfold GX12_where
      rw [isCode_ok (by rw [sg]; exact w1.1), bd_some, sg, if_neg (by rw [t01]; exact fun z => z c), in_ok, bd_some, if_neg (by rw [t01]; omega), D.eo c.1 (by omega), bd_some]
      by_cases x : ent (m_rd h 344) n < 0
      · rw [if_pos x, if_pos x]
        exact wi_ret ⟨rfl, I⟩
      rw [if_neg x, if_neg x, w32_id (x := 3 * ent (m_rd h 344) n) (by omega) (by omega), w32_id (x := 46 + 3 * ent (m_rd h 344) n) (by omega) (by omega), w32_id (by omega) (by omega)]
      by_cases y : m = 0
      · rw [if_pos y, if_pos y, show 46 + 3 * ent (m_rd h 344) n + 2 = 48 + 3 * ent (m_rd h 344) n by omega]
        refine wi_ib (by omega) (by omega) (wi_gn (wi_ret ⟨?_, I⟩))
        rw [sg]
      · rw [if_neg y, if_neg y]
        refine wi_ib (by omega) (by omega) (wi_gn (wi_ret ⟨?_, I⟩))
        rw [sg]
    by_cases x : ent (m_rd h 344) n = -1
    · rw [if_pos x]
      refine wi_ret ?_
      rw [if_pos (show ent (m_rd h 344) n < 0 by omega)] at mod
      exact mod
    · rw [if_neg x]
      rw [if_neg (show ¬ ent (m_rd h 344) n < 0 by omega)] at mod
      by_cases y : m = 0
      · rw [if_pos y, D.hf c.1 c.2, bd_some]
        rw [if_pos y] at mod
        refine wi_ret ?_
        unfold hol
        rw [if_neg (by omega)]
        exact mod
      · rw [if_neg y, digitsFor_ok D.1 D.2.1 D.2.2.1 D.2.2.2.1 D.2.2.2.2.1, bd_some, if_pos (by omega)]
        rw [if_neg y] at mod
        exact wi_ret mod
  · rw [if_pos (by rw [t01]; exact c)]
    refine wi_ret ?_
    unfold GX12_where
    rw [isCode_ok w1.1, bd_some, if_pos (by rw [t01]; exact c)]
    exact wi_ret ⟨rfl, H⟩
/-! loops over all codes that leave the heap as it is -/
def fld {β : Type} (g : Int → β → β) : Nat → Int → β → β
  | 0, _, b => b
  | m + 1, v, b => fld g m (v + 1) (g v b)
theorem uploop {α β : Type} {L : Nat → β → Int → Option α} {K : β → Option α} {g : Int → β → β} {N : Int} {I : Int → β → Prop} (step : ∀ f v b, I v b → 0 ≤ v → v < N → L (f + 1) b v = L f (g v b) (v + 1) ∧ I (v + 1) (g v b)) (stop : ∀ f b, L (f + 1) b N = K b) : ∀ (m f : Nat) (v : Int) (b : β), m < f → v + m = N → 0 ≤ v → I v b → L f b v = K (fld g m v b) ∧ I N (fld g m v b) := by
  intro m
  induction m with
  | zero =>
    intro f v b hf hv v0 ib
    obtain ⟨q, rfl⟩ : ∃ q, f = q + 1 := ⟨f - 1, by omega⟩
    rw [show v = N by omega] at ib ⊢
    exact ⟨stop q b, ib⟩
  | succ m ih =>
    intro f v b hf hv v0 ib
    obtain ⟨q, rfl⟩ : ∃ q, f = q + 1 := ⟨f - 1, by omega⟩
    obtain ⟨s1, s2⟩ := step q v b ib v0 (by omega)
    rw [s1]
    exact ih q (v + 1) (g v b) (by omega) (by omega) (by omega) s2
/-- the same, downwards -/
theorem downloop {α β : Type} {L : Nat → β → Int → Option α} {K : β → Option α} {g : Int → β → β} (R : Int → β) {N : Int} (rec : ∀ v, 0 ≤ v → v < N → R v = g v (R (v + 1))) (step : ∀ f v, 0 ≤ v → v < N → L (f + 1) (R (v + 1)) v = L f (g v (R (v + 1))) (v - 1)) (stop : ∀ f b, L (f + 1) b (-1) = K b) : ∀ (m f : Nat), m < f → (m : Int) ≤ N → L f (R m) (m - 1) = K (R 0) := by
  intro m
  induction m with
  | zero =>
    intro f hf hm
    obtain ⟨q, rfl⟩ : ∃ q, f = q + 1 := ⟨f - 1, by omega⟩
    exact stop q _
  | succ m ih =>
    intro f hf hm
    obtain ⟨q, rfl⟩ : ∃ q, f = q + 1 := ⟨f - 1, by omega⟩
    have s := step q m (by omega) (by omega)
    rw [← rec m (by omega) (by omega)] at s
    have e1 : ((m + 1 : Nat) : Int) = (m : Int) + 1 := by omega
    rw [e1, show (m : Int) + 1 - 1 = (m : Int) by omega, s]
    exact ih q (by omega) (by omega)
/-- how many, from v on -/
def cntF (p : Int → Bool) : Nat → Int → Int
  | 0, _ => 0
  | m + 1, v => (if p v then 1 else 0) + cntF p m (v + 1)
/-- the least, from v on -/
def leF (p : Int → Bool) : Nat → Int → Int
  | 0, _ => -2
  | m + 1, v => if p v then v else leF p m (v + 1)
theorem cntF_0 {p : Int → Bool} {v : Int} : cntF p 0 v = 0 := rfl
theorem leF_0 {p : Int → Bool} {v : Int} : leF p 0 v = -2 := rfl
theorem cntF_b {p : Int → Bool} : ∀ (m : Nat) (v : Int), 0 ≤ cntF p m v ∧ cntF p m v ≤ m := by
  intro m
  induction m with
  | zero =>
    intro v
    exact ⟨Int.le_refl _, Int.le_refl _⟩
  | succ m ih =>
    intro v
    have := ih (v + 1)
    show 0 ≤ (if p v then (1 : Int) else 0) + cntF p m (v + 1) ∧ (if p v then (1 : Int) else 0) + cntF p m (v + 1) ≤ ((m + 1 : Nat) : Int)
    split <;> omega
theorem howMany_L {g : MH} {S : Int → Int} {t : Int} {K : Int → MH → Option (Int × MH)} (D : Dr g S) : ∀ (m f : Nat) (v a : Int), m < f → v + m = cod S → 0 ≤ v → 0 ≤ a → a ≤ v → GX1_howManyTo_L4 t K f a v g = K (a + cntF (fun c => decide (hol S c = t)) m v) g := by
  have cb := cod_b D.1
  intro m
  induction m with
  | zero =>
    intro f v a hf hv v0 a0 a1
    obtain ⟨q, rfl⟩ : ∃ q, f = q + 1 := ⟨f - 1, by omega⟩
    conv => lhs; unfold GX1_howManyTo_L4
    rw [D.2.2.1.1, gd_cons D.2.2.1.2.2.1, gd_nil, D.2.2.2.1.2.2.2.1, if_neg (by omega)]
    show K a g = K (a + 0) g
    rw [Int.add_zero]
  | succ m ih =>
    intro f v a hf hv v0 a0 a1
    obtain ⟨q, rfl⟩ : ∃ q, f = q + 1 := ⟨f - 1, by omega⟩
    conv => lhs; unfold GX1_howManyTo_L4
    rw [D.2.2.1.1, gd_cons D.2.2.1.2.2.1, gd_nil, D.2.2.2.1.2.2.2.1, if_pos (by omega), D.hf v0 (by omega), bd_some, w32_id (x := a + 1) (by omega) (by omega), w32_id (x := v + 1) (by omega) (by omega)]
    show _ = K (a + ((if decide (hol S v = t) = true then 1 else 0) + cntF (fun c => decide (hol S c = t)) m (v + 1))) g
    by_cases c : hol S v = t
    · rw [if_pos c, if_pos (decide_eq_true c), ih q (v + 1) (a + 1) (by omega) (by omega) (by omega) (by omega) (by omega), Int.add_assoc]
    · rw [if_neg c, if_neg (by simp [c]), ih q (v + 1) a (by omega) (by omega) (by omega) (by omega) (by omega), Int.zero_add]
theorem leastTo_L {g : MH} {S : Int → Int} {t : Int} (D : Dr g S) : ∀ (m f : Nat) (v : Int), m < f → v + m = cod S → 0 ≤ v → GX1_leastTo_L2 t (fun w1 h2 => some (w1, h2)) (fun h3 => some ((-2), h3)) f v g = some (leF (fun c => decide (hol S c = t)) m v, g) := by
  have cb := cod_b D.1
  intro m
  induction m with
  | zero =>
    intro f v hf hv v0
    obtain ⟨q, rfl⟩ : ∃ q, f = q + 1 := ⟨f - 1, by omega⟩
    conv => lhs; unfold GX1_leastTo_L2
    rw [D.2.2.1.1, gd_cons D.2.2.1.2.2.1, gd_nil, D.2.2.2.1.2.2.2.1, if_neg (by omega)]
    rfl
  | succ m ih =>
    intro f v hf hv v0
    obtain ⟨q, rfl⟩ : ∃ q, f = q + 1 := ⟨f - 1, by omega⟩
    conv => lhs; unfold GX1_leastTo_L2
    rw [D.2.2.1.1, gd_cons D.2.2.1.2.2.1, gd_nil, D.2.2.2.1.2.2.2.1, if_pos (by omega), D.hf v0 (by omega), bd_some, w32_id (x := v + 1) (by omega) (by omega)]
    show _ = some ((if decide (hol S v = t) = true then v else leF (fun c => decide (hol S c = t)) m (v + 1)), g)
    by_cases c : hol S v = t
    · rw [if_pos c, if_pos (decide_eq_true c)]
    · rw [if_neg c, if_neg (by simp [c])]
      exact ih q (v + 1) (by omega) (by omega) (by omega)
theorem codes_L {g : MH} {S : Int → Int} {t u : Int} {K : Int → Int → MH → Option (Int × MH)} (D : Dr g S) : ∀ (n m f : Nat), n < f → (n : Int) + m = cod S → GX12_codes_L47 t u K f (cntF (fun c => decide (hol S c = t)) m n) (leF (fun c => decide (hol S c = t)) m n) ((n : Int) - 1) g = K (cntF (fun c => decide (hol S c = t)) (n + m) 0) (leF (fun c => decide (hol S c = t)) (n + m) 0) g := by
  have cb := cod_b D.1
  intro n
  induction n with
  | zero =>
    intro m f hf hv
    obtain ⟨q, rfl⟩ : ∃ q, f = q + 1 := ⟨f - 1, by omega⟩
    conv => lhs; unfold GX12_codes_L47
    rw [if_pos (by omega), show 0 + m = m by omega]
    rfl
  | succ n ih =>
    intro m f hf hv
    obtain ⟨q, rfl⟩ : ∃ q, f = q + 1 := ⟨f - 1, by omega⟩
    have i := ih (m + 1) q (by omega) (by omega)
    have cm := cntF_b (p := fun c => decide (hol S c = t)) m ((n + 1 : Nat) : Int)
    conv => lhs; unfold GX12_codes_L47
    rw [show (((n + 1 : Nat) : Int) - 1) = (n : Int) by omega, if_neg (by omega), D.ho (by omega) (by omega), bd_some, w32_id (x := (n : Int) + (-1)) (by omega) (by omega), w32_id (x := cntF _ m _ + 1) (by omega) (by omega), show n + 1 + m = n + (m + 1) by omega, ← i]
    have e1 : ((n + 1 : Nat) : Int) = (n : Int) + 1 := by omega
    rw [e1]
    by_cases c : hol S n = t
    · rw [if_pos c, show cntF (fun c => decide (hol S c = t)) (m + 1) n = 1 + cntF (fun c => decide (hol S c = t)) m (n + 1) by show (if decide (hol S n = t) = true then (1 : Int) else 0) + _ = _; rw [if_pos (decide_eq_true c)], show leF (fun c => decide (hol S c = t)) (m + 1) n = n by show (if decide (hol S n = t) = true then (n : Int) else _) = _; rw [if_pos (decide_eq_true c)], Int.add_comm 1]
      rfl
    · rw [if_neg c, show cntF (fun c => decide (hol S c = t)) (m + 1) n = cntF (fun c => decide (hol S c = t)) m (n + 1) by show (if decide (hol S n = t) = true then (1 : Int) else 0) + _ = _; rw [if_neg (by simp [c]), Int.zero_add], show leF (fun c => decide (hol S c = t)) (m + 1) n = leF (fun c => decide (hol S c = t)) m (n + 1) by show (if decide (hol S n = t) = true then (n : Int) else _) = _; rw [if_neg (by simp [c])]]
      rfl
theorem howMany_ok {g : MH} {S : Int → Int} {n : Int} (D : Dr g S) : GX1_howManyTo n g = some (cntF (fun c => decide (hol S c = n)) (cod S).toNat 0, g) := by
  have cb := cod_b D.1
  have q := howMany_L (t := n) (K := fun w1 h2 => some (w1, h2)) D (cod S).toNat FU 0 0 (by unfold FU; omega) (by omega) (by omega) (by omega) (by omega)
  rw [Int.zero_add] at q
  unfold GX1_howManyTo
  exact q
theorem leastTo_ok {g : MH} {S : Int → Int} {n : Int} (D : Dr g S) : GX1_leastTo n g = some (leF (fun c => decide (hol S c = n)) (cod S).toNat 0, g) := by
  have cb := cod_b D.1
  have q := leastTo_L (t := n) D (cod S).toNat FU 0 (by unfold FU; omega) (by omega) (by omega)
  unfold GX1_leastTo
  exact q
theorem codes_M {g : MH} {S : Int → Int} {n m : Int} (D : Dr g S) : GX12_codes_L47 n m (fun w9 w10 h11 => if m = 0 then some (w9, h11) else some (w10, h11)) FU 0 (-2) (cod S - 1) g = if m = 0 then some (cntF (fun c => decide (hol S c = n)) (cod S).toNat 0, g) else some (leF (fun c => decide (hol S c = n)) (cod S).toNat 0, g) := by
  have cb := cod_b D.1
  have L := codes_L (t := n) (u := m) (K := fun w9 w10 h11 => if m = 0 then some (w9, h11) else some (w10, h11)) D (cod S).toNat 0 FU (by unfold FU; omega) (by omega)
  rw [Nat.add_zero, show (((cod S).toNat : Nat) : Int) = cod S by omega, cntF_0, leF_0] at L
  exact L
theorem c_codes (n m : Int) : Call (GX11_codes n m) (GX12_codes n m) := by
  intro h H
  obtain ⟨⟨d1, d2, d3, d4, d5, d6, d7⟩, w1, w2, w3, w4, w5, w6, w7⟩ := H.2.2.2.1
  have cb := cod_b w1.1
  have fb := w1.1.b
  have hh := hasHole_ok (t := 21) (c := n) d1
  by_cases c : m_rd h 344 0 = 1 ∧ (n = -1 ∨ (0 ≤ n ∧ n < m_rd h 344 3)) ∧ 0 ≤ m ∧ m ≤ 1
  · obtain ⟨g, e, F, D, I⟩ := drawNow_ok H
    obtain ⟨p0, p1, p2⟩ := c
    have sg := D.2.2.2.2.2
    have hm := howMany_ok (n := n) D
    have le := leastTo_ok (n := n) D
    have L := codes_M (n := n) (m := m) D
    have mm : Wi (GX12_codes n m g) (fun w h2 => (if m = 0 then cntF (fun c => decide (hol (m_rd h 344) c = n)) (cod (m_rd h 344)).toNat 0 else leF (fun c => decide (hol (m_rd h 344) c = n)) (cod (m_rd h 344)).toNat 0) = w ∧ Inv h2) := by
      have fin : Wi (GX12_codes_L47 n m (fun w9 w10 h11 => if m = 0 then some (w9, h11) else some (w10, h11)) FU 0 (-2) (cod (m_rd h 344) - 1) g) (fun w h2 => (if m = 0 then cntF (fun c => decide (hol (m_rd h 344) c = n)) (cod (m_rd h 344)).toNat 0 else leF (fun c => decide (hol (m_rd h 344) c = n)) (cod (m_rd h 344)).toNat 0) = w ∧ Inv h2) := by
        rw [L]
        by_cases y : m = 0
        · rw [if_pos y, if_pos y]
          exact wi_ret ⟨rfl, I⟩
        · rw [if_neg y, if_neg y]
          exact wi_ret ⟨rfl, I⟩
      unfold GX12_codes
      refine wi_be isFrame_ok (wi_in (by rw [t01, sg]; exact fun z => z p0) (wi_jn ?_))
      by_cases c1 : n = -1
      · refine wi_ip c1 (wi_be in_ok (wi_in (by rw [t01]; exact fun z => z p2) (wi_be D.cm ?_)))
        rw [w32_id (by omega) (by omega)]
        exact fin
      · refine wi_in c1 (wi_be isHole_ok (wi_in (by rw [t01, sg]; omega) (wi_be in_ok (wi_in (by rw [t01]; exact fun z => z p2) (wi_be D.cm ?_)))))
        rw [w32_id (by omega) (by omega)]
        exact fin
    have tail : Wi (if m = 0 then (bd (GX1_howManyTo n g) (fun x10 h9 => some (x10, h9))) else (bd (GX1_leastTo n g) (fun x8 h7 => some (x8, h7)))) (fun v h1 => Wi (GX12_codes n m h1) (fun w h2 => v = w ∧ Inv h2)) := by
      by_cases y : m = 0
      · rw [if_pos y] at mm
        exact wi_ip y (wi_be hm (wi_ret mm))
      · rw [if_neg y] at mm
        exact wi_in y (wi_be le (wi_ret mm))
    unfold GX11_codes
    refine wi_jn (wi_jn ?_)
    by_cases c1 : n = -1
    · exact wi_ip c1 (wi_be (hasFrame_ok H) (wi_in (by rw [t01]; exact fun z => z p0) (wi_in (by decide) (wi_in (by omega) (wi_in (by omega) (wi_bw e tail))))))
    · exact wi_in c1 (wi_be hh (wi_in (by rw [t01]; omega) (wi_be (hasFrame_ok H) (wi_in (by rw [t01]; exact fun z => z p0) (wi_in (by decide) (wi_in (by omega) (wi_in (by omega) (wi_bw e tail))))))))
  · have mm : Wi (GX12_codes n m h) (fun w h2 => -3 = w ∧ Inv h2) := by
      unfold GX12_codes
      refine wi_be isFrame_ok ?_
      by_cases c0 : m_rd h 344 0 = 1
      · refine wi_in (by rw [t01]; exact fun z => z c0) (wi_jn ?_)
        by_cases c1 : n = -1
        · exact wi_ip c1 (wi_be in_ok (wi_ip (by rw [t01]; omega) (wi_ret ⟨rfl, H⟩)))
        · refine wi_in c1 (wi_be isHole_ok ?_)
          by_cases c3 : 0 ≤ n ∧ n < m_rd h 344 3
          · exact wi_in (by rw [t01]; exact fun z => z c3) (wi_be in_ok (wi_ip (by rw [t01]; omega) (wi_ret ⟨rfl, H⟩)))
          · exact wi_ip (by rw [t01]; exact c3) (wi_ret ⟨rfl, H⟩)
      · exact wi_ip (by rw [t01]; exact c0) (wi_ret ⟨rfl, H⟩)
    unfold GX11_codes
    refine wi_jn (wi_jn ?_)
    by_cases c0 : m_rd h 344 0 = 1
    · by_cases c1 : n = -1
      · refine wi_ip c1 (wi_be (hasFrame_ok H) (wi_in (by rw [t01]; exact fun z => z c0) (wi_in (by decide) ?_)))
        by_cases c2 : m < 0
        · exact wi_ip c2 (wi_ret mm)
        · exact wi_in c2 (wi_ip (by omega) (wi_ret mm))
      · refine wi_in c1 (wi_be hh ?_)
        by_cases c3 : 0 ≤ n ∧ n < m_rd h 344 3
        · refine wi_in (by rw [t01]; exact fun z => z c3) (wi_be (hasFrame_ok H) (wi_in (by rw [t01]; exact fun z => z c0) (wi_in (by decide) ?_)))
          by_cases c2 : m < 0
          · exact wi_ip c2 (wi_ret mm)
          · exact wi_in c2 (wi_ip (by omega) (wi_ret mm))
        · exact wi_ip (by rw [t01]; exact c3) (wi_be (hasFrame_ok H) (wi_in (by rw [t01]; exact fun z => z c0) (wi_ip rfl (wi_ret mm))))
    · by_cases c1 : n = -1
      · exact wi_ip c1 (wi_be (hasFrame_ok H) (wi_ip (by rw [t01]; exact c0) (wi_ret mm)))
      · refine wi_in c1 (wi_be hh ?_)
        by_cases c3 : 0 ≤ n ∧ n < m_rd h 344 3
        · exact wi_in (by rw [t01]; exact fun z => z c3) (wi_be (hasFrame_ok H) (wi_ip (by rw [t01]; exact c0) (wi_ret mm)))
        · exact wi_ip (by rw [t01]; exact c3) (wi_be (hasFrame_ok H) (wi_ip (by rw [t01]; exact c0) (wi_ret mm)))
