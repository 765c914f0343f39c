/-! RULE read by the class: facts and tests by depth -/
theorem byteCR {B : Int → Int} {n c : Int} {x : RST} {h : MH} (b : BB B n) (C : CRu h B n x) (o : OkS n x) (c0 : c ≠ -1) : ∃ v h', GX9_takeByte c h = some (v, h') ∧ Fr F123 h h' ∧ (bya B n (sk B n x.1) = c → v = 1 ∧ CRu h' B n (mvp (sk B n x.1 + 1) x)) ∧ (bya B n (sk B n x.1) ≠ c → v = 0 ∧ m_rd h' 1 3 = 1 + 8 * sk B n x.1 + 0) := by
  have b1 := b.2.1
  have sb := sk_b (B := B) b.2.1 o.1 o.2.1
  have p0 := o.1
  obtain ⟨h1, e1, F1, C1⟩ := nextCR b C o
  have a1 : m_rd h1 1 2 = sk B n x.1 := C1.1.2.1
  unfold GX9_takeByte
  rw [e1, bd_some, a1]
  by_cases k : bya B n (sk B n x.1) = c
  · have qn : sk B n x.1 < n := by
      by_cases y : sk B n x.1 < n
      · exact y
      · have := bya_o (B := B) (n := n) (q := sk B n x.1) (by omega)
        omega
    rw [if_pos k, w32_id (x := sk B n x.1 + 1) (by omega) (by omega)]
    exact ⟨1, _, rfl, Fr.wr F1 ⟨rfl, Or.inl rfl⟩, fun _ => ⟨rfl, C1.at (by omega) (by omega)⟩, fun z => absurd k z⟩
  · rw [if_neg k, failC (by omega) (by omega) (by omega) (by omega) C1.1.2.2.1, bd_some, gd_cons (show GT 0 from Or.inl rfl), gd_nil]
    exact ⟨0, _, rfl, Fr.wr F1 ⟨rfl, Or.inr rfl⟩, fun z => absurd z k, fun _ => ⟨rfl, rd_eq rfl rfl⟩⟩
theorem testC {B : Int → Int} {n a : Int} {F : RST → RAN} {RT RF : Int → MH → Option (Int × MH)} (b : BB B n) (hQ : FQ n F) (hF : HF B n F (RF a)) : HF B n (fun x => rb (F x) (tlo B n F 401 false)) (GX6_takeTest_b RT RF a) := by
  intro x h C ok
  have b1 := b.2.1
  unfold GX6_takeTest_b
  obtain ⟨v, h1, e1, F1, r1⟩ := hF x h C ok
  rw [e1, bd_some]
  show ∃ v h', _ ∧ Fr RuF h h' ∧ OutR h' B n v (rb (F x) (tlo B n F 401 false))
  cases hv : F x with
  | inl f =>
    rw [hv] at r1
    rw [if_pos r1.1]
    exact ⟨0, h1, rfl, F1, rfl, r1.2.1, r1.2.2⟩
  | inr y =>
    rw [hv] at r1
    have oy := (hQ x y ok.1 hv).okt ok
    have y1 := oy.2.1
    have y2 := oy.1.2.2.1
    rw [if_neg (by rw [r1.1]; decide)]
    obtain ⟨v2, h2, e2, F2, r2⟩ := tst17_L (RT := RT) b hQ hF (n - y.1).toNat FU 401 false 0 y h1 (Nat.le_refl _) (by unfold FU; omega) (by omega) (by omega) (by omega) r1.2 oy (fun z => absurd z (by decide))
    exact ⟨v2, h2, e2, F1.tr F2, r2⟩
/-- the comparison of a fact, as the class reads it -/
theorem cmpFC {B : Int → Int} {n : Int} : BB B n → HF B n (cmp B n) (fun h3 => bd (GX6_takeSum h3) (fun x19 h18 => if x19 = 0 then some (0, h18) else bd (GX6_takeComparison h18) (fun x21 h20 => if x21 = (-99) then some (0, h20) else bd (GX6_takeSum h20) (fun x23 h22 => if x23 = 0 then some (0, h22) else bd (GX6_put x21 h22) (fun x25 h24 => if x25 = 0 then some (0, h24) else some (1, h24)))))) := by
  intro b x h C ok
  have b1 := b.2.1
  obtain ⟨v, h1, e1, F1, r1⟩ := sumC b C ok
  show ∃ v h', bd (GX6_takeSum h) _ = some (v, h') ∧ Fr RuF h h' ∧ OutR h' B n v (rb (smm B n x) _)
  rw [e1, bd_some]
  cases hv : smm B n x with
  | inl f =>
    rw [hv] at r1
    rw [if_pos r1.1]
    exact ⟨0, h1, rfl, F1, rfl, r1.2.1, r1.2.2⟩
  | inr y =>
    rw [hv] at r1
    have oy := (smm_Q b ok.1 hv).okt ok
    have sb := sk_b (B := B) b.2.1 oy.1.1 oy.1.2.1
    have y0 := oy.1.1
    have y1 := oy.2.1
    have y4 := oy.1.2.2.2
    have y5 := oy.2.2
    rw [if_neg (by rw [r1.1]; decide)]
    obtain ⟨v2, h2, e2, F2, k1, k2, k3⟩ := cmpC b r1.2 oy
    rw [e2, bd_some]
    show ∃ v h', _ ∧ Fr RuF h h' ∧ OutR h' B n v (if iscm B n (sk B n y.1) = true then cnp (sk B n y.1) (mvp (sk B n y.1 + cml B n (sk B n y.1)) y) (fun z => rb (smm B n z) (fun u => .inr (pu (cmc B n (sk B n y.1)) u))) else .inl (1 + 8 * sk B n y.1 + 0))
    by_cases c : iscm B n (sk B n y.1) = true
    · obtain ⟨q1, q2, q3, q4, q5⟩ := cm_b (q := sk B n y.1) (by omega) c
      rw [if_pos c]
      unfold cnp
      by_cases c6 : y.2.2.1 = 60
      · obtain ⟨z, f⟩ := k2 c c6
        rw [if_pos z, if_pos (show (mvp (sk B n y.1 + cml B n (sk B n y.1)) y).2.2.1 = 60 from c6)]
        exact ⟨0, h2, rfl, F1.tr F2, rfl, f, by omega⟩
      · obtain ⟨z, C2⟩ := k1 c c6
        rw [if_neg (by omega), if_neg (show ¬ (mvp (sk B n y.1 + cml B n (sk B n y.1)) y).2.2.1 = 60 from c6)]
        have ow : OkT n (sk B n y.1 + cml B n (sk B n y.1), y.2.1, y.2.2.1 + 1, y.2.2.2) := ⟨⟨by show (0 : Int) ≤ sk B n y.1 + cml B n (sk B n y.1); omega, q3, oy.1.2.2.1, by show y.2.2.1 + 1 ≤ 60; omega⟩, by show y.2.1 < sk B n y.1 + cml B n (sk B n y.1); omega, by show (0 : Int) ≤ y.2.2.1 + 1; omega⟩
        obtain ⟨v3, h3, e3, F3, r3⟩ := sumC b C2 ow
        rw [e3, bd_some]
        show ∃ v h', _ ∧ Fr RuF h h' ∧ OutR h' B n v (rb (smm B n (sk B n y.1 + cml B n (sk B n y.1), y.2.1, y.2.2.1 + 1, y.2.2.2)) (fun u => .inr (pu (cmc B n (sk B n y.1)) u)))
        cases hw : smm B n (sk B n y.1 + cml B n (sk B n y.1), y.2.1, y.2.2.1 + 1, y.2.2.2) with
        | inl f =>
          rw [hw] at r3
          rw [if_pos r3.1]
          exact ⟨0, h3, rfl, F1.tr (F2.tr F3), rfl, r3.2.1, r3.2.2⟩
        | inr u =>
          rw [hw] at r3
          have pq := smm_Q b ow.1 hw
          have ou := pq.okt ow
          have u1 := ou.1.2.1
          have u2 := ou.2.1
          rw [if_neg (by rw [r3.1]; decide)]
          obtain ⟨h4, e4, F4, C4⟩ := putC (c := v2) r3.2 ou.1.2.2.1 (by omega)
          rw [e4, bd_some, if_neg (by decide)]
          rw [z] at C4
          exact ⟨1, h4, rfl, F1.tr (F2.tr (F3.tr F4)), rfl, C4⟩
    · obtain ⟨z, f⟩ := k3 c
      rw [if_pos z, if_neg c]
      exact ⟨0, h2, rfl, F1.tr F2, rfl, f, by omega⟩
/-- the class reads facts and tests as the pure reader, at every depth -/
theorem factC {B : Int → Int} {n : Int} (b : BB B n) : ∀ (k f : Nat), k ≤ 10 → 2 * k < f → HF B n (fac B n k) (G_tf f false (10 - k)) := by
  have b1 := b.2.1
  intro k
  induction k with
  | zero =>
    intro f hk hf x h C ok
    obtain ⟨g, rfl⟩ : ∃ g, f = g + 1 := ⟨f - 1, by omega⟩
    have sb := sk_b (B := B) b.2.1 ok.1.1 ok.1.2.1
    have p0 := ok.1.1
    have sp := ok.2.1
    obtain ⟨h1, e1, F1, C1⟩ := nextCR b C ok.1
    have a1 : m_rd h1 1 2 = sk B n x.1 := C1.1.2.1
    have ok1 : OkT n (mvp (sk B n x.1) x) := ⟨⟨by show (0 : Int) ≤ sk B n x.1; omega, sb.2, ok.1.2.2.1, ok.1.2.2.2⟩, by show x.2.1 < sk B n x.1; omega, ok.2.2⟩
    obtain ⟨v2, h2, e2, F2, y2, n2⟩ := wordCR b C1 ok1.1 wd_26
    have si : sk B n (mvp (sk B n x.1) x).1 = sk B n x.1 := sk_i b.2.1 ok.1.1
    rw [si] at y2 n2
    have F02 : Fr RuF h h2 := (F1.wk (fun _ _ z => z.ruf)).tr (F2.wk (fun _ _ z => z.ruf))
    have e : G_tf (g + 1) false (10 - ((0 : Nat) : Int)) h = GX6_takeFact_b (G_tf g true) (G_tf g false) (10 - ((0 : Nat) : Int)) h := rfl
    rw [e]
    unfold GX6_takeFact_b fac
    simp only [jn]
    rw [e1, bd_some, e2, bd_some, a1, if_neg (show ¬ ((10 : Int) - ((0 : Nat) : Int) < 10) by omega)]
    have z2 : m_rd h2 1 3 = 0 := by
      by_cases c1 : wdp B n (sk B n x.1) (-26)
      · exact (y2 c1).2.1.2.2.1
      · exact (n2 c1).2.1.2.2.1
    rw [failC (by omega) (by omega) (by decide) (by decide) z2, bd_some, gd_cons (show GT 0 from Or.inl rfl), gd_nil]
    have bad : ∃ v h', some ((0 : Int), m_wr h2 1 3 (1 + 8 * sk B n x.1 + 2)) = some (v, h') ∧ Fr RuF h h' ∧ OutR h' B n v (.inl (1 + 8 * sk B n x.1 + 2)) := ⟨0, _, rfl, Fr.wr F02 (Or.inl ⟨rfl, Or.inr rfl⟩), rfl, rd_eq rfl rfl, by omega⟩
    by_cases c1 : wdp B n (sk B n x.1) (-26)
    · have z := (y2 c1).1
      rw [if_neg (show ¬ v2 = 0 by omega), if_pos (dec_t c1)]
      exact bad
    · obtain ⟨z, C2⟩ := n2 c1
      rw [if_pos z, if_neg (show ¬ dec (wdp B n (sk B n x.1) (-26)) = true by rw [dec_f c1]; decide)]
      by_cases c2 : bya B n (sk B n x.1) = 91
      · rw [if_pos c2, if_pos c2]
        exact bad
      · rw [if_neg c2, if_neg c2]
        obtain ⟨v, h3, e3, F3, r3⟩ := cmpFC b (mvp (sk B n x.1) x) h2 C2 ok1
        exact ⟨v, h3, e3, F02.tr F3, r3⟩
  | succ k ih =>
    intro f hk hf x h C ok
    obtain ⟨g, rfl⟩ : ∃ g, f = g + 1 + 1 := ⟨f - 2, by omega⟩
    have sb := sk_b (B := B) b.2.1 ok.1.1 ok.1.2.1
    have p0 := ok.1.1
    have sp := ok.2.1
    obtain ⟨h1, e1, F1, C1⟩ := nextCR b C ok.1
    have ok1 : OkT n (mvp (sk B n x.1) x) := ⟨⟨by show (0 : Int) ≤ sk B n x.1; omega, sb.2, ok.1.2.2.1, ok.1.2.2.2⟩, by show x.2.1 < sk B n x.1; omega, ok.2.2⟩
    obtain ⟨v2, h2, e2, F2, y2, n2⟩ := wordCR b C1 ok1.1 wd_26
    have si : sk B n (mvp (sk B n x.1) x).1 = sk B n x.1 := sk_i b.2.1 ok.1.1
    rw [si] at y2 n2
    have F02 : Fr RuF h h2 := (F1.wk (fun _ _ z => z.ruf)).tr (F2.wk (fun _ _ z => z.ruf))
    have e : G_tf (g + 1 + 1) false (10 - ((k + 1 : Nat) : Int)) h = GX6_takeFact_b (G_tf (g + 1) true) (G_tf (g + 1) false) (10 - ((k + 1 : Nat) : Int)) h := rfl
    have dd : m_w32 (10 - ((k + 1 : Nat) : Int) + 1) = 10 - (k : Int) := by
      rw [w32_id (by omega) (by omega)]
      omega
    rw [e]
    unfold GX6_takeFact_b fac
    simp only [jn]
    rw [e1, bd_some, e2, bd_some, if_pos (show (10 : Int) - ((k + 1 : Nat) : Int) < 10 by omega), dd]
    by_cases c1 : wdp B n (sk B n x.1) (-26)
    · obtain ⟨z, C2⟩ := y2 c1
      have we := wd_end b wd_26 (by omega) sb.2 c1
      rw [show t_len (-26) = 3 by decide] at C2 we
      have ok2 : OkT n (mvp (sk B n x.1 + 3) x) := ⟨⟨by show (0 : Int) ≤ sk B n x.1 + 3; omega, by show sk B n x.1 + 3 ≤ n; omega, ok.1.2.2.1, ok.1.2.2.2⟩, by show x.2.1 < sk B n x.1 + 3; omega, ok.2.2⟩
      rw [if_neg (show ¬ v2 = 0 by omega), if_pos (dec_t c1), if_neg (show ¬ v2 = 0 by omega)]
      obtain ⟨v3, h3, e3, F3, r3⟩ := ih (g + 1) (by omega) (by omega) (mvp (sk B n x.1 + 3) x) h2 C2 ok2
      rw [e3, bd_some]
      cases hv : fac B n k (mvp (sk B n x.1 + 3) x) with
      | inl q =>
        rw [hv] at r3
        rw [if_pos r3.1]
        exact ⟨0, h3, rfl, F02.tr F3, rfl, r3.2.1, r3.2.2⟩
      | inr y =>
        rw [hv] at r3
        have oy := (fac_Q b k _ y ok2.1 hv).okt ok2
        have yn := oy.1.2.1
        have yp := oy.2.1
        obtain ⟨h4, e4, F4, C4⟩ := putC (c := -32) r3.2 oy.1.2.2.1 (by omega)
        rw [if_neg (by rw [r3.1]; decide), e4, bd_some, if_neg (by decide)]
        exact ⟨1, h4, rfl, F02.tr (F3.tr F4), rfl, C4⟩
    · obtain ⟨z, C2⟩ := n2 c1
      have C2' : CRu h2 B n (mvp (sk B n x.1) x) := C2
      rw [if_pos z, if_neg (show ¬ dec (wdp B n (sk B n x.1) (-26)) = true by rw [dec_f c1]; decide)]
      by_cases c2 : bya B n (sk B n x.1) = 91
      · rw [if_pos c2, if_pos c2, if_pos z]
        have qn : sk B n x.1 < n := by
          by_cases c : sk B n x.1 < n
          · exact c
          · have := bya_o (B := B) (n := n) (q := sk B n x.1) (by omega)
            omega
        obtain ⟨v3, h3, e3, F3, y3, _⟩ := byteCR (c := 91) b C2' ok1.1 (by decide)
        rw [si] at y3
        obtain ⟨z3, C3⟩ := y3 c2
        have C3' : CRu h3 B n (mvp (sk B n x.1 + 1) x) := C3
        have ok3 : OkT n (mvp (sk B n x.1 + 1) x) := ⟨⟨by show (0 : Int) ≤ sk B n x.1 + 1; omega, by show sk B n x.1 + 1 ≤ n; omega, ok.1.2.2.1, ok.1.2.2.2⟩, by show x.2.1 < sk B n x.1 + 1; omega, ok.2.2⟩
        have F03 : Fr RuF h h3 := F02.tr (F3.wk (fun _ _ z => z.ruf))
        rw [e3, bd_some, if_neg (by omega)]
        obtain ⟨v4, h4, e4, F4, r4⟩ := testC (RT := G_tf g true) (RF := G_tf g false) (a := 10 - (k : Int)) b (fac_Q b k) (ih g (by omega) (by omega)) _ h3 C3' ok3
        have e4' : G_tf (g + 1) true (10 - (k : Int)) h3 = some (v4, h4) := e4
        have as : rb (fac B n k (mvp (sk B n x.1 + 1) x)) (fun y => rb (tlo B n (fac B n k) 401 false y) (fun z => if bya B n (sk B n z.1) = 93 then .inr (mvp (sk B n z.1 + 1) z) else .inl (1 + 8 * sk B n z.1 + 0))) = rb (rb (fac B n k (mvp (sk B n x.1 + 1) x)) (tlo B n (fac B n k) 401 false)) (fun z => if bya B n (sk B n z.1) = 93 then .inr (mvp (sk B n z.1 + 1) z) else .inl (1 + 8 * sk B n z.1 + 0)) := by
          cases fac B n k (mvp (sk B n x.1 + 1) x) <;> rfl
        rw [e4', bd_some, as]
        have r4' : OutR h4 B n v4 (rb (fac B n k (mvp (sk B n x.1 + 1) x)) (tlo B n (fac B n k) 401 false)) := r4
        cases hv : rb (fac B n k (mvp (sk B n x.1 + 1) x)) (tlo B n (fac B n k) 401 false) with
        | inl q =>
          rw [hv] at r4'
          rw [if_pos r4'.1]
          exact ⟨0, h4, rfl, F03.tr F4, rfl, r4'.2.1, r4'.2.2⟩
        | inr u =>
          rw [hv] at r4'
          obtain ⟨y, ey, ez⟩ := rb_r hv
          have ou := (tlo_Q b (fac_Q b k) ok3.1 401 false y u (fac_Q b k _ y ok3.1 ey) ez).okt ok3
          have su := sk_b (B := B) b.2.1 ou.1.1 ou.1.2.1
          have ou0 := ou.1.1
          rw [if_neg (by rw [r4'.1]; decide)]
          obtain ⟨v5, h5, e5, F5, y5, n5⟩ := byteCR (c := 93) b r4'.2 ou.1 (by decide)
          rw [e5, bd_some]
          have F05 : Fr RuF h h5 := (F03.tr F4).tr (F5.wk (fun _ _ z => z.ruf))
          show ∃ v h', _ ∧ Fr RuF h h' ∧ OutR h' B n v (if bya B n (sk B n u.1) = 93 then .inr (mvp (sk B n u.1 + 1) u) else .inl (1 + 8 * sk B n u.1 + 0))
          by_cases c3 : bya B n (sk B n u.1) = 93
          · obtain ⟨z5, C5⟩ := y5 c3
            rw [if_neg (by omega), if_pos c3]
            exact ⟨1, h5, rfl, F05, rfl, C5⟩
          · obtain ⟨z5, f5⟩ := n5 c3
            rw [if_pos z5, if_neg c3]
            exact ⟨0, h5, rfl, F05, rfl, f5, by omega⟩
      · rw [if_neg c2, if_neg c2]
        obtain ⟨v, h3, e3, F3, r3⟩ := cmpFC b (mvp (sk B n x.1) x) h2 C2' ok1
        exact ⟨v, h3, e3, F02.tr F3, r3⟩
