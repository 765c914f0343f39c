/-! RULE read by the class: sums -/
theorem telp_sk {B : Int → Int} {n : Int} {x : RST} (n1 : n ≤ 400) (p0 : 0 ≤ x.1) : ∀ m : Nat, telp B n m (mvp (sk B n x.1) x) = telp B n m x := by
  intro m
  cases m with
  | zero => rfl
  | succ m =>
    unfold telp
    rw [show (mvp (sk B n x.1) x).1 = sk B n x.1 from rfl, sk_i n1 p0]
    rfl
theorem sulp_sk {B : Int → Int} {n : Int} {x : RST} (n1 : n ≤ 400) (p0 : 0 ≤ x.1) : ∀ m : Nat, sulp B n m (mvp (sk B n x.1) x) = sulp B n m x := by
  intro m
  cases m with
  | zero => rfl
  | succ m =>
    unfold sulp
    rw [show (mvp (sk B n x.1) x).1 = sk B n x.1 from rfl, sk_i n1 p0]
    rfl
theorem jo_c (b : Int) : jo b = -99 ∨ isJ1 (jo b) = true ∨ isJ2 (jo b) = true := by
  unfold jo
  (repeat' split) <;> decide
/-- one more value behind the sign that stands there -/
def oph (v : Int) (x : RST) : RST := if v = -99 then x else pu v x
theorem nextCR {B : Int → Int} {n : Int} {x : RST} {h : MH} (b : BB B n) (C : CRu h B n x) (o : OkS n x) : ∃ h', GX9_next h = some (bya B n (sk B n x.1), h') ∧ Fr F123 h h' ∧ CRu h' B n (mvp (sk B n x.1) x) := by
  have sb := sk_b (B := B) b.2.1 o.1 o.2.1
  have p0 := o.1
  obtain ⟨h1, e1, F1, a1⟩ := nextC b C.1.1 C.1.2.1 o.1 o.2.1
  have F1' : Fr F123 h h1 := F1.wk (fun _ _ z => z.f123)
  exact ⟨h1, e1, F1', C.mv F1' ⟨C.1.1.fr F1 (fun a j z => by unfold F12 at z; omega), a1, by rw [F1.rd (by unfold F12; omega)]; exact C.1.2.2.1, by omega, sb.2⟩⟩
theorem CRu.at {B : Int → Int} {n p : Int} {x : RST} {h : MH} (C : CRu h B n x) (p0 : 0 ≤ p) (p1 : p ≤ n) : CRu (m_wr h 1 2 p) B n (mvp p x) := by
  have F : Fr F12 h (m_wr h 1 2 p) := Fr.wr Fr.rf ⟨rfl, rfl⟩
  exact C.mv (F.wk (fun _ _ z => z.f123)) ⟨C.1.1.fr F (fun a j z => by unfold F12 at z; omega), rd_eq rfl rfl, by rw [F.rd (by unfold F12; omega)]; exact C.1.2.2.1, p0, p1⟩
def SumE (h : MH) (B : Int → Int) (n : Int) (r : Option (Int × MH)) (K0 : MH → Option (Int × MH)) (K1 : Int → MH → Option (Int × MH)) (R : RAN) : Prop := match R with
  | .inl f => ∃ h', r = K0 h' ∧ Fr RuF h h' ∧ m_rd h' 1 3 = f ∧ 0 < f
  | .inr y => ∃ w h' z, r = K1 w h' ∧ Fr RuF h h' ∧ CRu h' B n z ∧ y = oph w z ∧ (w ≠ -99 → z.2.1 < 400) ∧ 0 ≤ z.2.1
theorem SumE.st {h h1 : MH} {B : Int → Int} {n : Int} {r : Option (Int × MH)} {K0 : MH → Option (Int × MH)} {K1 : Int → MH → Option (Int × MH)} {R : RAN} (F : Fr RuF h h1) (s : SumE h1 B n r K0 K1 R) : SumE h B n r K0 K1 R := by
  match R, s with
  | .inl f, ⟨h', e, F', a⟩ => exact ⟨h', e, F.tr F', a⟩
  | .inr y, ⟨w, h', z, e, F', a⟩ => exact ⟨w, h', z, e, F.tr F', a⟩
theorem oph_1 {v : Int} {x : RST} : (oph v x).1 = x.1 ∧ (oph v x).2.2.1 = x.2.2.1 ∧ (oph v x).2.1 = x.2.1 + (if v = -99 then 0 else 1) := by
  unfold oph
  by_cases c : v = -99
  · rw [if_pos c, if_pos c]
    exact ⟨rfl, rfl, (Int.add_zero _).symm⟩
  · rw [if_neg c, if_neg c]
    exact ⟨rfl, rfl, rfl⟩
theorem J1_c {c : Int} (h : isJ1 c = true) : c = -20 ∨ c = -21 := of_decide_eq_true h
theorem J2_c {c : Int} (h : isJ2 c = true) : c = -22 ∨ c = -23 ∨ c = -24 := of_decide_eq_true h
theorem J_no {c : Int} (h : c = -99) : isJ1 c ≠ true ∧ isJ2 c ≠ true := by
  subst h
  exact ⟨by decide, by decide⟩
theorem J12 {c : Int} (h : isJ1 c = true) : isJ2 c ≠ true := by
  rcases J1_c h with rfl | rfl <;> decide
theorem sum25_L {B : Int → Int} {n : Int} {K0 : MH → Option (Int × MH)} {K1 : Int → MH → Option (Int × MH)} (b : BB B n) : ∀ (d f m1 m2 : Nat) (v1 v3 : Int) (x : RST) (h : MH), (n - x.1).toNat ≤ d → d < f → d < m1 → d < m2 → v3 + d < 400 → 0 ≤ v3 → sk B n x.1 = x.1 → CRu h B n x → OkR n x → x.2.1 + (if v1 = -99 then 0 else 1) ≤ x.1 → SumE h B n (GX6_takeSum_L25 K0 K1 f v1 (jo (bya B n x.1)) v3 h) K0 K1 (rb (telp B n m1 x) (fun y => sulp B n m2 (oph v1 y))) := by
  have b1 := b.2.1
  have stop : ∀ (f m1 m2 : Nat) (v1 v3 : Int) (x : RST) (h : MH), v3 < 400 → sk B n x.1 = x.1 → CRu h B n x → OkR n x → x.2.1 + (if v1 = -99 then 0 else 1) ≤ x.1 → jo (bya B n x.1) = -99 → SumE h B n (GX6_takeSum_L25 K0 K1 (f + 1) v1 (jo (bya B n x.1)) v3 h) K0 K1 (rb (telp B n (m1 + 1) x) (fun y => sulp B n (m2 + 1) (oph v1 y))) := by
    intro f m1 m2 v1 v3 x h hv hs C o hr hj
    have e1 : telp B n (m1 + 1) x = .inr x := by
      unfold telp
      rw [hs, hj, if_neg (J_no rfl).2]
      rfl
    have e2 : sulp B n (m2 + 1) (oph v1 x) = .inr (oph v1 x) := by
      unfold sulp
      rw [oph_1.1, hs, hj, if_neg (J_no rfl).1]
      rw [show mvp x.1 (oph v1 x) = oph v1 x from by
        have := (oph_1 (v := v1) (x := x)).1
        unfold mvp
        rw [← this]]
    rw [e1]
    show SumE h B n _ K0 K1 (sulp B n (m2 + 1) (oph v1 x))
    rw [e2]
    refine ⟨v1, h, x, ?_, Fr.rf, C, rfl, fun z => ?_, o.1.2.2.1⟩
    · unfold GX6_takeSum_L25
      rw [if_pos hv, if_pos hj]
    · rw [if_neg z] at hr
      have := o.1.2.1
      omega
  intro d
  induction d with
  | zero =>
    intro f m1 m2 v1 v3 x h hd hf h1 h2 hv v30 hs C o hr
    obtain ⟨q, rfl⟩ : ∃ q, f = q + 1 := ⟨f - 1, by omega⟩
    obtain ⟨q1, rfl⟩ : ∃ q, m1 = q + 1 := ⟨m1 - 1, by omega⟩
    obtain ⟨q2, rfl⟩ : ∃ q, m2 = q + 1 := ⟨m2 - 1, by omega⟩
    refine stop q q1 q2 v1 v3 x h (by omega) hs C o hr ?_
    rw [bya_o (by have := o.1.2.1; omega)]
    rfl
  | succ d ih =>
    intro f m1 m2 v1 v3 x h hd hf h1 h2 hv v30 hs C o hr
    obtain ⟨q, rfl⟩ : ∃ q, f = q + 1 := ⟨f - 1, by omega⟩
    obtain ⟨q1, rfl⟩ : ∃ q, m1 = q + 1 := ⟨m1 - 1, by omega⟩
    obtain ⟨q2, rfl⟩ : ∃ q, m2 = q + 1 := ⟨m2 - 1, by omega⟩
    by_cases hj : jo (bya B n x.1) = -99
    · exact stop q q1 q2 v1 v3 x h (by omega) hs C o hr hj
    obtain ⟨⟨p0, pn, s0, q60⟩, so, q0⟩ := o
    have xn := jo_in (B := B) (n := n) (q := x.1) hj p0
    have d0 : (if v1 = -99 then (0 : Int) else 1) = 0 ∨ (if v1 = -99 then (0 : Int) else 1) = 1 := by
      split <;> omega
    have Ca := C.at (p := x.1 + 1) (by omega) (by omega)
    have Fa : Fr RuF h (m_wr h 1 2 (x.1 + 1)) := Fr.wr Fr.rf (Or.inl ⟨rfl, Or.inl rfl⟩)
    /- the rest behind a value, with the sign that is open then -/
    have rest : ∀ (c : Int) (k1 k2 : Nat) (y : RST) (g : MH), CRu g B n y → OkR n y → x.1 + 1 ≤ y.1 → y.2.1 + (if c = -99 then 0 else 1) ≤ y.1 → d < k1 → d < k2 → SumE g B n (bd (GX9_next g) (fun x11 h10 => bd (GX6_joinOf x11 h10) (fun x13 h12 => GX6_takeSum_L25 K0 K1 q c x13 (m_w32 (v3 + 1)) h12))) K0 K1 (rb (telp B n k1 y) (fun z => sulp B n k2 (oph c z))) := by
      intro c k1 k2 y g Cy oy py ry kk1 kk2
      obtain ⟨g1, e1, F1, C1⟩ := nextCR b Cy oy.1
      have sb := sk_b (B := B) b.2.1 oy.1.1 oy.1.2.1
      have oy0 := oy.1.1
      rw [e1, bd_some, joinOf_ok, bd_some, w32_id (x := v3 + 1) (by omega) (by omega), ← telp_sk b.2.1 oy.1.1 k1]
      have oy2 := oy.2.1
      exact SumE.st (F1.wk (fun _ _ z => z.ruf)) (ih q k1 k2 c (v3 + 1) (mvp (sk B n y.1) y) g1 (by show (n - sk B n y.1).toNat ≤ d; omega) (by omega) kk1 kk2 (by omega) (by omega) (sk_i b.2.1 oy.1.1) C1 ⟨⟨by show (0 : Int) ≤ sk B n y.1; omega, sb.2, oy.1.2.2.1, oy.1.2.2.2⟩, by show y.2.1 ≤ sk B n y.1; omega, oy.2.2⟩ (by show y.2.1 + _ ≤ sk B n y.1; omega))
    unfold GX6_takeSum_L25
    rw [if_pos (by omega), if_neg hj]
    simp only [jn]
    rw [C.1.2.1, w32_id (x := x.1 + 1) (by omega) (by omega)]
    rcases jo_c (bya B n x.1) with z | j1 | j2
    · exact absurd z hj
    · have jc := J1_c j1
      have e1 : telp B n (q1 + 1) x = .inr x := by
        unfold telp
        rw [hs, if_neg (J12 j1)]
        rfl
      rw [e1]
      have u1 := oph_1 (v := v1) (x := x)
      have e2 : sulp B n (q2 + 1) (oph v1 x) = rb (rb (val B n (mvp (x.1 + 1) (oph v1 x))) (telp B n 401)) (fun y => sulp B n q2 (pu (jo (bya B n x.1)) y)) := by
        conv => lhs; unfold sulp
        rw [u1.1, hs, if_pos j1]
        rfl
      have eu : mvp (x.1 + 1) (oph v1 x) = oph v1 (mvp (x.1 + 1) x) := by
        unfold oph
        split <;> rfl
      show SumE h B n _ K0 K1 (sulp B n (q2 + 1) (oph v1 x))
      rw [e2, eu]
      have u2 := oph_1 (v := v1) (x := mvp (x.1 + 1) x)
      have u21 : (oph v1 (mvp (x.1 + 1) x)).1 = x.1 + 1 := u2.1
      have u23 : (oph v1 (mvp (x.1 + 1) x)).2.1 = x.2.1 + (if v1 = -99 then 0 else 1) := u2.2.2
      have u22 : (oph v1 (mvp (x.1 + 1) x)).2.2.1 = x.2.2.1 := u2.2.1
      have go : ∀ g, CRu g B n (oph v1 (mvp (x.1 + 1) x)) → Fr RuF h g → SumE h B n (bd (GX6_takeValue g) (fun x6 h5 => if x6 = 0 then K0 h5 else bd (GX9_next h5) (fun x11 h10 => bd (GX6_joinOf x11 h10) (fun x13 h12 => GX6_takeSum_L25 K0 K1 q (jo (bya B n x.1)) x13 (m_w32 (v3 + 1)) h12)))) K0 K1 (rb (rb (val B n (oph v1 (mvp (x.1 + 1) x))) (telp B n 401)) (fun y => sulp B n q2 (pu (jo (bya B n x.1)) y))) := by
        intro g Cg Fg
        have og : OkR n (oph v1 (mvp (x.1 + 1) x)) := ⟨⟨by omega, by omega, by omega, by omega⟩, by omega, by omega⟩
        obtain ⟨v, g1, ev, Fv, rv⟩ := valC b Cg og (by omega)
        rw [ev, bd_some]
        cases hv' : val B n (oph v1 (mvp (x.1 + 1) x)) with
        | inl f =>
          rw [hv'] at rv
          rw [if_pos rv.1]
          exact ⟨g1, rfl, Fg.tr Fv, rv.2.1, rv.2.2⟩
        | inr y =>
          rw [hv'] at rv
          have pq := val_Q b og.1 hv'
          have oy := pq.okr og
          rw [if_neg (by rw [rv.1]; decide)]
          have p1 := pq.2.1
          have p2 := pq.2.2
          have rr := rest (jo (bya B n x.1)) 401 q2 y g1 rv.2 oy (by omega) (by rw [if_neg hj]; omega) (by omega) (by omega)
          have eo : ∀ z, oph (jo (bya B n x.1)) z = pu (jo (bya B n x.1)) z := fun z => if_neg hj
          simp only [eo] at rr
          exact SumE.st (Fg.tr Fv) rr
      have sel : ∀ (r1 r0 : Option (Int × MH)), (if jo (bya B n x.1) = -20 then r1 else if jo (bya B n x.1) = -21 then r1 else r0) = r1 := fun r1 r0 => by
        rcases jc with e | e
        · rw [if_pos e]
        · rw [if_neg (by omega), if_pos e]
      rw [sel]
      simp only [if_neg (show ¬ ((1 : Int) = 0) by decide)]
      by_cases c : v1 = -99
      · rw [if_pos c]
        exact go _ (by rw [show oph v1 (mvp (x.1 + 1) x) = mvp (x.1 + 1) x from if_pos c]; exact Ca) Fa
      · rw [if_neg c]
        rw [if_neg c] at hr
        obtain ⟨g, eg, Fg, Cg⟩ := putC (c := v1) Ca s0 (by show x.2.1 < 400; omega)
        rw [eg, bd_some]
        exact go g (by rw [show oph v1 (mvp (x.1 + 1) x) = pu v1 (mvp (x.1 + 1) x) from if_neg c]; exact Cg) (Fa.tr Fg)
    · have jc := J2_c j2
      have e1 : telp B n (q1 + 1) x = rb (val B n (mvp (x.1 + 1) x)) (fun y => telp B n q1 (pu (jo (bya B n x.1)) y)) := by
        conv => lhs; unfold telp
        rw [hs, if_pos j2]
      rw [e1]
      have sel : ∀ (r1 r0 : Option (Int × MH)), (if jo (bya B n x.1) = -20 then r1 else if jo (bya B n x.1) = -21 then r1 else r0) = r0 := fun r1 r0 => by
        rw [if_neg (by omega), if_neg (by omega)]
      rw [sel]
      simp only [↓reduceIte]
      have og : OkR n (mvp (x.1 + 1) x) := ⟨⟨by show (0 : Int) ≤ x.1 + 1; omega, by show x.1 + 1 ≤ n; omega, s0, q60⟩, by show x.2.1 ≤ x.1 + 1; omega, q0⟩
      obtain ⟨v, g1, ev, Fv, rv⟩ := valC b Ca og (by show x.2.1 < 400; omega)
      rw [ev, bd_some]
      cases hv' : val B n (mvp (x.1 + 1) x) with
      | inl f =>
        rw [hv'] at rv
        rw [if_pos rv.1]
        exact ⟨g1, rfl, Fa.tr Fv, rv.2.1, rv.2.2⟩
      | inr y =>
        rw [hv'] at rv
        have pq := val_Q b og.1 hv'
        have oy := pq.okr og
        rw [if_neg (by rw [rv.1]; decide)]
        have p1 : x.1 + 1 < y.1 := pq.2.1
        have p2 : y.2.1 - x.2.1 ≤ y.1 - (x.1 + 1) := pq.2.2
        have oy2 := oy.1.2.1
        obtain ⟨g2, eg, Fg, Cg⟩ := putC (c := jo (bya B n x.1)) rv.2 oy.1.2.2.1 (by omega)
        rw [eg, bd_some]
        have oy3 := oy.1.2.2.1
        exact SumE.st ((Fa.tr Fv).tr Fg) (rest v1 q1 (q2 + 1) (pu (jo (bya B n x.1)) y) g2 Cg ⟨⟨oy.1.1, oy.1.2.1, by show (0 : Int) ≤ y.2.1 + 1; omega, oy.1.2.2.2⟩, by show y.2.1 + 1 ≤ y.1; omega, oy.2.2⟩ (by show x.1 + 1 ≤ y.1; omega) (by show y.2.1 + 1 + _ ≤ y.1; omega) (by omega) (by omega))
