/-! RULE read by the class: sums, comparisons -/
def OkT (n : Int) (x : RST) : Prop := OkS n x ∧ x.2.1 < x.1 ∧ 0 ≤ x.2.2.1
theorem OkT.r {n : Int} {x : RST} (o : OkT n x) : OkR n x := ⟨o.1, by have := o.2.1; omega, o.2.2⟩
theorem PQ.okt {n : Int} {F : List Bool → Option (List Bool)} {x y : RST} (h : PQ n F x y) (o : OkT n x) : OkT n y := by
  refine ⟨h.ok o.1, ?_, ?_⟩
  · have := h.2.2
    have := o.2.1
    omega
  · have := h.1.1
    have := o.2.2
    omega
theorem sumC {B : Int → Int} {n : Int} {x : RST} {h : MH} (b : BB B n) (C : CRu h B n x) (o : OkT n x) : ∃ v h', GX6_takeSum h = some (v, h') ∧ Fr RuF h h' ∧ OutR h' B n v (smm B n x) := by
  have b1 := b.2.1
  have o1 := o.1.2.1
  have o2 := o.2.1
  have o3 := o.1.2.2.1
  unfold GX6_takeSum smm trm
  obtain ⟨v, h1, e1, F1, r1⟩ := valC b C o.r (by omega)
  rw [e1, bd_some]
  cases hv : val B n x with
  | inl f =>
    rw [hv] at r1
    rw [if_pos r1.1]
    exact ⟨0, h1, rfl, F1, rfl, r1.2.1, r1.2.2⟩
  | inr y =>
    rw [hv] at r1
    have oy := (val_Q b o.1 hv).okt o
    have sb := sk_b (B := B) b.2.1 oy.1.1 oy.1.2.1
    have y0 := oy.1.1
    have y1 := oy.2.1
    have y2 := oy.1.2.2.1
    rw [if_neg (by rw [r1.1]; decide)]
    obtain ⟨h2, e2, F2, C2⟩ := nextCR b r1.2 oy.1
    rw [e2, bd_some, joinOf_ok, bd_some]
    have s := sum25_L (K0 := fun h7 => some (0, h7)) (K1 := fun w8 h9 => if w8 = (-99) then some (1, h9) else bd (GX6_put w8 h9) (fun x11 h10 => if x11 = 0 then some (0, h10) else some (1, h10))) b (n - sk B n y.1).toNat FU 401 401 (-99) 0 (mvp (sk B n y.1) y) h2 (Nat.le_refl _) (by unfold FU; omega) (by omega) (by omega) (by omega) (by omega) (sk_i b.2.1 oy.1.1) C2 ⟨⟨by show (0 : Int) ≤ sk B n y.1; omega, sb.2, oy.1.2.2.1, oy.1.2.2.2⟩, by show y.2.1 ≤ sk B n y.1; omega, oy.2.2⟩ (by show y.2.1 + 0 ≤ sk B n y.1; omega)
    have eo : ∀ z, oph (-99) z = z := fun z => if_pos rfl
    simp only [eo] at s
    rw [telp_sk b.2.1 oy.1.1 401] at s
    have F12' : Fr RuF h h2 := F1.tr (F2.wk (fun _ _ z => z.ruf))
    show ∃ v h', _ ∧ Fr RuF h h' ∧ OutR h' B n v (rb (telp B n 401 y) (sulp B n 401))
    generalize rb (telp B n 401 y) (sulp B n 401) = R at s ⊢
    match R, s with
    | .inl f, ⟨h', e', F', a1, a2⟩ => exact ⟨0, h', e', F12'.tr F', rfl, a1, a2⟩
    | .inr u, ⟨w, h', z, e', F', Cz, eu, z4, z0⟩ =>
      have e'' : GX6_takeSum_L25 _ _ FU (-99) (jo (bya B n (sk B n y.1))) 0 h2 = _ := e'
      rw [e'', eu]
      show ∃ v h'', (if w = -99 then some (1, h') else bd (GX6_put w h') (fun x11 h10 => if x11 = 0 then some (0, h10) else some (1, h10))) = some (v, h'') ∧ Fr RuF h h'' ∧ OutR h'' B n v (.inr (oph w z))
      by_cases c : w = -99
      · rw [if_pos c, show oph w z = z from if_pos c]
        exact ⟨1, h', rfl, F12'.tr F', rfl, Cz⟩
      · obtain ⟨g, eg, Fg, Cg⟩ := putC (c := w) Cz z0 (z4 c)
        rw [if_neg c, eg, bd_some, if_neg (by decide), show oph w z = pu w z from if_neg c]
        exact ⟨1, g, rfl, (F12'.tr F').tr Fg, rfl, Cg⟩
/-- the sign of a comparison -/
theorem cmpC {B : Int → Int} {n : Int} {x : RST} {h : MH} (b : BB B n) (C : CRu h B n x) (o : OkT n x) : ∃ v h', GX6_takeComparison h = some (v, h') ∧ Fr RuF h h' ∧ (iscm B n (sk B n x.1) = true → x.2.2.1 ≠ 60 → v = cmc B n (sk B n x.1) ∧ CRu h' B n (sk B n x.1 + cml B n (sk B n x.1), x.2.1, x.2.2.1 + 1, x.2.2.2)) ∧ (iscm B n (sk B n x.1) = true → x.2.2.1 = 60 → v = -99 ∧ m_rd h' 1 3 = 1 + 8 * sk B n x.1 + 3) ∧ (iscm B n (sk B n x.1) ≠ true → v = -99 ∧ m_rd h' 1 3 = 1 + 8 * sk B n x.1 + 0) := by
  have b1 := b.2.1
  have p0 := o.1.1
  have sb := sk_b (B := B) b.2.1 o.1.1 o.1.2.1
  obtain ⟨h1, e1, F1, C1⟩ := nextCR b C o.1
  have a1 : m_rd h1 1 2 = sk B n x.1 := C1.1.2.1
  have F1' : Fr RuF h h1 := F1.wk (fun _ _ z => z.ruf)
  unfold GX6_takeComparison
  simp only [jn]
  rw [e1, bd_some, a1]
  by_cases c : iscm B n (sk B n x.1) = true
  · have cc : bya B n (sk B n x.1) = 60 ∨ bya B n (sk B n x.1) = 61 ∨ bya B n (sk B n x.1) = 62 := of_decide_eq_true c
    obtain ⟨q1, q2, q3, q4, q5⟩ := cm_b (q := sk B n x.1) (by omega) c
    have sel : ∀ (r1 r0 : Option (Int × MH)), (if bya B n (sk B n x.1) = 60 then r1 else if bya B n (sk B n x.1) = 61 then r1 else if bya B n (sk B n x.1) = 62 then r1 else r0) = r1 := fun r1 r0 => by
      rcases cc with e | e | e
      · rw [if_pos e]
      · rw [if_neg (by omega), if_pos e]
      · rw [if_neg (by omega), if_neg (by omega), if_pos e]
    rw [sel]
    obtain ⟨v, h2, e2, F2, r1, r2⟩ := cntC (a := sk B n x.1) C1 o.2.2 o.1.2.2.2 (by omega) (by omega)
    rw [e2, bd_some]
    by_cases c6 : x.2.2.1 = 60
    · obtain ⟨v0, f⟩ := r1 c6
      rw [if_pos v0]
      exact ⟨-99, h2, rfl, F1'.tr F2, fun _ z => absurd c6 z, fun _ _ => ⟨rfl, f⟩, fun z => absurd c z⟩
    · obtain ⟨v1, C2⟩ := r2 c6
      have C2' : CRu h2 B n (sk B n x.1, x.2.1, x.2.2.1 + 1, x.2.2.2) := C2
      have a2 : m_rd h2 1 2 = sk B n x.1 := C2'.1.2.1
      rw [if_neg (by omega), a2, w32_id (x := sk B n x.1 + 1) (by omega) (by omega)]
      have C3 := C2'.at (p := sk B n x.1 + 1) (by omega) (by omega)
      have F3 : Fr RuF h (m_wr h2 1 2 (sk B n x.1 + 1)) := Fr.wr (F1'.tr F2) (Or.inl ⟨rfl, Or.inl rfl⟩)
      have n6 : ∀ {P : Prop}, iscm B n (sk B n x.1) = true → x.2.2.1 = 60 → P := fun _ z => absurd z c6
      by_cases k1 : bya B n (sk B n x.1) = 61
      · have l : cml B n (sk B n x.1) = 1 := if_pos k1
        have m : cmc B n (sk B n x.1) = -27 := if_pos k1
        rw [if_pos k1, l, m]
        exact ⟨-27, _, rfl, F3, fun _ _ => ⟨rfl, C3⟩, n6, fun z => absurd c z⟩
      · rw [if_neg k1, rd_eq rfl rfl, byteAt_ok b C3.1.1, bd_some]
        by_cases k2 : bya B n (sk B n x.1 + 1) = 61
        · have l : cml B n (sk B n x.1) = 2 := by
            unfold cml
            rw [if_neg k1, if_pos k2]
          have m : cmc B n (sk B n x.1) = if bya B n (sk B n x.1) = 60 then -26 else -28 := by
            unfold cmc
            rw [if_neg k1, if_pos k2]
          rw [if_pos k2, rd_eq rfl rfl, w32_id (x := sk B n x.1 + 1 + 1) (by omega) (by omega), l, m]
          rw [l] at q3
          have C4 := C3.at (p := sk B n x.1 + 1 + 1) (by omega) (by omega)
          have F4 : Fr RuF h (m_wr (m_wr h2 1 2 (sk B n x.1 + 1)) 1 2 (sk B n x.1 + 1 + 1)) := Fr.wr F3 (Or.inl ⟨rfl, Or.inl rfl⟩)
          rw [show sk B n x.1 + 2 = sk B n x.1 + 1 + 1 by omega]
          by_cases k3 : bya B n (sk B n x.1) = 60
          · rw [if_pos k3, if_pos k3]
            exact ⟨-26, _, rfl, F4, fun _ _ => ⟨rfl, C4⟩, n6, fun z => absurd c z⟩
          · rw [if_neg k3, if_neg k3]
            exact ⟨-28, _, rfl, F4, fun _ _ => ⟨rfl, C4⟩, n6, fun z => absurd c z⟩
        · have l : cml B n (sk B n x.1) = 1 := by
            unfold cml
            rw [if_neg k1, if_neg k2]
          have m : cmc B n (sk B n x.1) = if bya B n (sk B n x.1) = 60 then -25 else -29 := by
            unfold cmc
            rw [if_neg k1, if_neg k2]
          rw [if_neg k2, l, m]
          by_cases k3 : bya B n (sk B n x.1) = 60
          · rw [if_pos k3, if_pos k3]
            exact ⟨-25, _, rfl, F3, fun _ _ => ⟨rfl, C3⟩, n6, fun z => absurd c z⟩
          · rw [if_neg k3, if_neg k3]
            exact ⟨-29, _, rfl, F3, fun _ _ => ⟨rfl, C3⟩, n6, fun z => absurd c z⟩
  · have cc : ¬ (bya B n (sk B n x.1) = 60 ∨ bya B n (sk B n x.1) = 61 ∨ bya B n (sk B n x.1) = 62) := fun z => c (decide_eq_true z)
    rw [if_neg (by omega), if_neg (by omega), if_neg (by omega), failC (by omega) (by omega) (by omega) (by omega) C1.1.2.2.1, bd_some]
    exact ⟨-99, _, rfl, Fr.wr F1' (Or.inl ⟨rfl, Or.inr rfl⟩), fun z => absurd z c, fun z => absurd z c, fun _ => ⟨rfl, rd_eq rfl rfl⟩⟩
