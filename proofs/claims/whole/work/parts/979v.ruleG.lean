/-! RULE read by the class: facts and tests by depth -/
theorem byteCR {B : Int → Int} {n c : Int} {x : RST} {h : MH} (b : BB B n) (C : CRu h B n x) (o : OkS n x) (c0 : c ≠ -1) : ∃ v h', GX9_takeByte c h = some (v, h') ∧ Fr F123 h h' ∧ (bya B n (sk B n x.1) = c → v = 1 ∧ CRu h' B n (mvp (sk B n x.1 + 1) x)) ∧ (bya B n (sk B n x.1) ≠ c → v = 0 ∧ m_rd h' 1 3 = 1 + 8 * sk B n x.1 + 0) := by
  have b1 := b.2.1
  have sb := sk_b (B := B) b.2.1 o.1 o.2.1
  have p0 := o.1
  obtain ⟨h1, e1, F1, C1⟩ := nextCR b C o
  have a1 : m_rd h1 1 2 = sk B n x.1 := C1.1.2.1
  unfold GX9_takeByte
  rw [e1, bd_some, a1]
  by_cases k : bya B n (sk B n x.1) = c
  · have qn : sk B n x.1 < n := by
      by_cases y : sk B n x.1 < n
      · exact y
      · have := bya_o (B := B) (n := n) (q := sk B n x.1) (by omega)
        omega
    rw [if_pos k, w32_id (x := sk B n x.1 + 1) (by omega) (by omega)]
    exact ⟨1, _, rfl, Fr.wr F1 ⟨rfl, Or.inl rfl⟩, fun _ => ⟨rfl, C1.at (by omega) (by omega)⟩, fun z => absurd k z⟩
  · rw [if_neg k, failC (by omega) (by omega) (by omega) (by omega) C1.1.2.2.1, bd_some, gd_cons (show GT 0 from Or.inl rfl), gd_nil]
    exact ⟨0, _, rfl, Fr.wr F1 ⟨rfl, Or.inr rfl⟩, fun z => absurd z k, fun _ => ⟨rfl, rd_eq rfl rfl⟩⟩
theorem testC {B : Int → Int} {n a : Int} {F : RST → RAN} {RT RF : Int → MH → Option (Int × MH)} (b : BB B n) (hQ : FQ n F) (hF : HF B n F (RF a)) : HF B n (fun x => rb (F x) (tlo B n F 401 false)) (GX6_takeTest_b RT RF a) := by
  intro x h C ok
  have b1 := b.2.1
  unfold GX6_takeTest_b
  obtain ⟨v, h1, e1, F1, r1⟩ := hF x h C ok
  rw [e1, bd_some]
  show ∃ v h', _ ∧ Fr RuF h h' ∧ OutR h' B n v (rb (F x) (tlo B n F 401 false))
  cases hv : F x with
  | inl f =>
    rw [hv] at r1
    rw [if_pos r1.1]
    exact ⟨0, h1, rfl, F1, rfl, r1.2.1, r1.2.2⟩
  | inr y =>
    rw [hv] at r1
    have oy := (hQ x y ok.1 hv).okt ok
    have y1 := oy.2.1
    have y2 := oy.1.2.2.1
    rw [if_neg (by rw [r1.1]; decide)]
    obtain ⟨v2, h2, e2, F2, r2⟩ := tst17_L (RT := RT) b hQ hF (n - y.1).toNat FU 401 false 0 y h1 (Nat.le_refl _) (by unfold FU; omega) (by omega) (by omega) (by omega) r1.2 oy (fun z => absurd z (by decide))
    exact ⟨v2, h2, e2, F1.tr F2, r2⟩
/-- the comparison of a fact, as the class reads it -/
theorem cmpFC {B : Int → Int} {n : Int} : BB B n → HF B n (cmp B n) (fun h3 => bd (GX6_takeSum h3) (fun x19 h18 => if x19 = 0 then some (0, h18) else bd (GX6_takeComparison h18) (fun x21 h20 => if x21 = (-99) then some (0, h20) else bd (GX6_takeSum h20) (fun x23 h22 => if x23 = 0 then some (0, h22) else bd (GX6_put x21 h22) (fun x25 h24 => if x25 = 0 then some (0, h24) else some (1, h24)))))) := by
  intro b x h C ok
  have b1 := b.2.1
  obtain ⟨v, h1, e1, F1, r1⟩ := sumC b C ok
  show ∃ v h', bd (GX6_takeSum h) _ = some (v, h') ∧ Fr RuF h h' ∧ OutR h' B n v (rb (smm B n x) _)
  rw [e1, bd_some]
  cases hv : smm B n x with
  | inl f =>
    rw [hv] at r1
    rw [if_pos r1.1]
    exact ⟨0, h1, rfl, F1, rfl, r1.2.1, r1.2.2⟩
  | inr y =>
    rw [hv] at r1
    have oy := (smm_Q b ok.1 hv).okt ok
    have sb := sk_b (B := B) b.2.1 oy.1.1 oy.1.2.1
    have y0 := oy.1.1
    have y1 := oy.2.1
    have y4 := oy.1.2.2.2
    have y5 := oy.2.2
    rw [if_neg (by rw [r1.1]; decide)]
    obtain ⟨v2, h2, e2, F2, k1, k2, k3⟩ := cmpC b r1.2 oy
    rw [e2, bd_some]
    show ∃ v h', _ ∧ Fr RuF h h' ∧ OutR h' B n v (if iscm B n (sk B n y.1) = true then cnp (sk B n y.1) (mvp (sk B n y.1 + cml B n (sk B n y.1)) y) (fun z => rb (smm B n z) (fun u => .inr (pu (cmc B n (sk B n y.1)) u))) else .inl (1 + 8 * sk B n y.1 + 0))
    by_cases c : iscm B n (sk B n y.1) = true
    · obtain ⟨q1, q2, q3, q4, q5⟩ := cm_b (q := sk B n y.1) (by omega) c
      rw [if_pos c]
      unfold cnp
      by_cases c6 : y.2.2.1 = 60
      · obtain ⟨z, f⟩ := k2 c c6
        rw [if_pos z, if_pos (show (mvp (sk B n y.1 + cml B n (sk B n y.1)) y).2.2.1 = 60 from c6)]
        exact ⟨0, h2, rfl, F1.tr F2, rfl, f, by omega⟩
      · obtain ⟨z, C2⟩ := k1 c c6
        rw [if_neg (by omega), if_neg (show ¬ (mvp (sk B n y.1 + cml B n (sk B n y.1)) y).2.2.1 = 60 from c6)]
        have ow : OkT n (sk B n y.1 + cml B n (sk B n y.1), y.2.1, y.2.2.1 + 1, y.2.2.2) := ⟨⟨by show (0 : Int) ≤ sk B n y.1 + cml B n (sk B n y.1); omega, q3, oy.1.2.2.1, by show y.2.2.1 + 1 ≤ 60; omega⟩, by show y.2.1 < sk B n y.1 + cml B n (sk B n y.1); omega, by show (0 : Int) ≤ y.2.2.1 + 1; omega⟩
        obtain ⟨v3, h3, e3, F3, r3⟩ := sumC b C2 ow
        rw [e3, bd_some]
        show ∃ v h', _ ∧ Fr RuF h h' ∧ OutR h' B n v (rb (smm B n (sk B n y.1 + cml B n (sk B n y.1), y.2.1, y.2.2.1 + 1, y.2.2.2)) (fun u => .inr (pu (cmc B n (sk B n y.1)) u)))
        cases hw : smm B n (sk B n y.1 + cml B n (sk B n y.1), y.2.1, y.2.2.1 + 1, y.2.2.2) with
        | inl f =>
          rw [hw] at r3
          rw [if_pos r3.1]
          exact ⟨0, h3, rfl, F1.tr (F2.tr F3), rfl, r3.2.1, r3.2.2⟩
        | inr u =>
          rw [hw] at r3
          have pq := smm_Q b ow.1 hw
          have ou := pq.okt ow
          have u1 := ou.1.2.1
          have u2 := ou.2.1
          rw [if_neg (by rw [r3.1]; decide)]
          obtain ⟨h4, e4, F4, C4⟩ := putC (c := v2) r3.2 ou.1.2.2.1 (by omega)
          rw [e4, bd_some, if_neg (by decide)]
          rw [z] at C4
          exact ⟨1, h4, rfl, F1.tr (F2.tr (F3.tr F4)), rfl, C4⟩
    · obtain ⟨z, f⟩ := k3 c
      rw [if_pos z, if_neg c]
      exact ⟨0, h2, rfl, F1.tr F2, rfl, f, by omega⟩
/-- the class reads facts and tests as the pure reader, at every depth -/
theorem factC {B : Int → Int} {n : Int} (b : BB B n) : ∀ (k f : Nat), k ≤ 10 → 2 * k < f → HF B n (fac B n k) (G_tf f false (10 - k)) := by
  have b1 := b.2.1
  intro k
  induction k with
  | zero =>
    intro f hk hf x h C ok
    obtain ⟨g, rfl⟩ : ∃ g, f = g + 1 := ⟨f - 1, by omega⟩
    have sb := sk_b (B := B) b.2.1 ok.1.1 ok.1.2.1
    have p0 := ok.1.1
    have sp := ok.2.1
    obtain ⟨h1, e1, F1, C1⟩ := nextCR b C ok.1
    have a1 : m_rd h1 1 2 = sk B n x.1 := C1.1.2.1
    have ok1 : OkT n (mvp (sk B n x.1) x) := ⟨⟨by show (0 : Int) ≤ sk B n x.1; omega, sb.2, ok.1.2.2.1, ok.1.2.2.2⟩, by show x.2.1 < sk B n x.1; omega, ok.2.2⟩
    obtain ⟨v2, h2, e2, F2, y2, n2⟩ := wordCR b C1 ok1.1 wd_26
    have si : sk B n (mvp (sk B n x.1) x).1 = sk B n x.1 := sk_i b.2.1 ok.1.1
    rw [si] at y2 n2
    sorry
  | succ k ih =>
    intro f hk hf x h C ok
    sorry
