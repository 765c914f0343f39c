/-! RULE read by the class: facts and tests -/
theorem wordCR {B : Int → Int} {n a w : Int} {x : RST} {h : MH} (b : BB B n) (C : CRu h B n x) (o : OkS n x) (W : WD a w) : ∃ v h', GX9_takeWord a h = some (v, h') ∧ Fr F123 h h' ∧ (wdp B n (sk B n x.1) a → v = 1 ∧ CRu h' B n (mvp (sk B n x.1 + t_len a) x)) ∧ (¬ wdp B n (sk B n x.1) a → v = 0 ∧ CRu h' B n (mvp (sk B n x.1) x)) := by
  have sb := sk_b (B := B) b.2.1 o.1 o.2.1
  have p0 := o.1
  obtain ⟨v, h', e, x01, xi, F, hp'⟩ := takeWordC b C.1.1 C.1.2.1 o.1 o.2.1 W.1 (by have := W.2.2.1; omega)
  have F' : Fr F123 h h' := F.wk (fun _ _ z => z.f123)
  have T' : TpC h' B n := C.1.1.fr F (fun a j z => by unfold F12 at z; omega)
  have z' : m_rd h' 1 3 = 0 := by
    rw [F.rd (by unfold F12; omega)]
    exact C.1.2.2.1
  refine ⟨v, h', e, F', fun y => ?_, fun y => ?_⟩
  · have x1 := xi.2 y
    rw [if_pos x1] at hp'
    have we := wd_end b W (by omega) sb.2 y
    exact ⟨x1, C.mv F' ⟨T', hp', z', by omega, by omega⟩⟩
  · have x1 : v ≠ 1 := fun q => y (xi.1 q)
    rw [if_neg x1] at hp'
    exact ⟨by omega, C.mv F' ⟨T', hp', z', by omega, by omega⟩⟩
def HF (B : Int → Int) (n : Int) (F : RST → RAN) (G : MH → Option (Int × MH)) : Prop := ∀ x h, CRu h B n x → OkT n x → ∃ v h', G h = some (v, h') ∧ Fr RuF h h' ∧ OutR h' B n v (F x)
theorem tst17_L {B : Int → Int} {n a : Int} {F : RST → RAN} {RT RF : Int → MH → Option (Int × MH)} (b : BB B n) (hQ : FQ n F) (hF : HF B n F (RF a)) : ∀ (d f m : Nat) (o : Bool) (v4 : Int) (x : RST) (h : MH), (n - x.1).toNat ≤ d → d + 1 < f → d < m → v4 + d < 400 → 0 ≤ v4 → CRu h B n x → OkT n x → (o = true → x.2.1 + 1 < x.1) → ∃ v h', GX6_takeTest_L17 RT RF a (fun h3 => some (0, h3)) (fun h4 => some (0, h4)) (fun w5 h6 => if w5 = 0 then some (1, h6) else bd (GX6_put (-31) h6) (fun x8 h7 => some (1, h7))) f (if o = true then 1 else 0) 1 v4 h = some (v, h') ∧ Fr RuF h h' ∧ OutR h' B n v (tlo B n F m o x) := by
  have b1 := b.2.1
  have fin : ∀ (f : Nat) (o : Bool) (v4 : Int) (x : RST) (h : MH), CRu h B n x → OkT n x → (o = true → x.2.1 + 1 < x.1) → ∃ v h', GX6_takeTest_L17 RT RF a (fun h3 => some (0, h3)) (fun h4 => some (0, h4)) (fun w5 h6 => if w5 = 0 then some (1, h6) else bd (GX6_put (-31) h6) (fun x8 h7 => some (1, h7))) (f + 1) (if o = true then 1 else 0) 0 v4 h = some (v, h') ∧ Fr RuF h h' ∧ OutR h' B n v (.inr (opn o x)) := by
    intro f o v4 x h C ok ho
    have e : GX6_takeTest_L17 RT RF a (fun h3 => some (0, h3)) (fun h4 => some (0, h4)) (fun w5 h6 => if w5 = 0 then some (1, h6) else bd (GX6_put (-31) h6) (fun x8 h7 => some (1, h7))) (f + 1) (if o = true then 1 else 0) 0 v4 h = if (if o = true then (1 : Int) else 0) = 0 then some (1, h) else bd (GX6_put (-31) h) (fun x8 h7 => some (1, h7)) := by
      unfold GX6_takeTest_L17
      by_cases z : v4 < 400
      · rw [if_pos z, if_pos rfl]
      · rw [if_neg z]
    rw [e]
    have ok1 := ok.1.2.1
    cases o with
    | false => exact ⟨1, h, rfl, Fr.rf, rfl, C⟩
    | true =>
      have := ho rfl
      obtain ⟨g, eg, Fg, Cg⟩ := putC (c := -31) C ok.1.2.2.1 (by omega)
      rw [if_pos rfl, if_neg (by decide), eg, bd_some]
      exact ⟨1, g, rfl, Fg, rfl, Cg⟩
  have mvT : ∀ (p : Int) (x : RST), OkT n x → x.1 ≤ p → p ≤ n → OkT n (mvp p x) := fun p x ok p0 p1 => ⟨⟨by show (0 : Int) ≤ p; have := ok.1.1; omega, p1, ok.1.2.2.1, ok.1.2.2.2⟩, by show x.2.1 < p; have := ok.2.1; omega, ok.2.2⟩
  have els : ∀ (q m : Nat) (o : Bool) (v4 : Int) (x : RST) (h : MH), v4 < 400 → CRu h B n x → OkT n x → (o = true → x.2.1 + 1 < x.1) → ¬ wdp B n (sk B n x.1) (-27) → ¬ wdp B n (sk B n x.1) (-28) → ∃ v h', GX6_takeTest_L17 RT RF a (fun h3 => some (0, h3)) (fun h4 => some (0, h4)) (fun w5 h6 => if w5 = 0 then some (1, h6) else bd (GX6_put (-31) h6) (fun x8 h7 => some (1, h7))) (q + 1 + 1) (if o = true then 1 else 0) 1 v4 h = some (v, h') ∧ Fr RuF h h' ∧ OutR h' B n v (tlo B n F (m + 1) o x) := by
    intro q m o v4 x h hv C ok ho na no
    have sb := sk_b (B := B) b.2.1 ok.1.1 ok.1.2.1
    have p0 := ok.1.1
    obtain ⟨v1, h1, e1, F1, _, n1⟩ := wordCR b C ok.1 wd_27
    obtain ⟨z1, C1⟩ := n1 na
    have ok1 := mvT _ x ok sb.1 sb.2
    obtain ⟨v2, h2, e2, F2, _, n2⟩ := wordCR b C1 ok1.1 wd_28
    have si : sk B n (mvp (sk B n x.1) x).1 = sk B n x.1 := sk_i b.2.1 ok.1.1
    rw [si] at n2
    obtain ⟨z2, C2⟩ := n2 no
    have et : tlo B n F (m + 1) o x = .inr (opn o (mvp (sk B n x.1) x)) := by
      unfold tlo
      rw [if_neg (by rw [dec_f na]; decide), if_neg (by rw [dec_f no]; decide)]
    rw [et]
    obtain ⟨v, h3, e3, F3, r3⟩ := fin q o (m_w32 (v4 + 1)) (mvp (sk B n x.1) x) h2 C2 ok1 (fun z => by show x.2.1 + 1 < sk B n x.1; have := ho z; omega)
    refine ⟨v, h3, ?_, (F1.wk (fun _ _ z => z.ruf)).tr ((F2.wk (fun _ _ z => z.ruf)).tr F3), r3⟩
    conv => lhs; unfold GX6_takeTest_L17
    rw [if_pos hv, if_neg (by decide), e1, bd_some, if_pos z1, e2, bd_some, if_pos z2]
    exact e3
  intro d
  induction d with
  | zero =>
    intro f m o v4 x h hd hf hm hv v40 C ok ho
    obtain ⟨q, rfl⟩ : ∃ q, f = q + 1 + 1 := ⟨f - 2, by omega⟩
    obtain ⟨m', rfl⟩ : ∃ q, m = q + 1 := ⟨m - 1, by omega⟩
    have xn : x.1 = n := by
      have := ok.1.2.1
      omega
    have sb := sk_b (B := B) b.2.1 ok.1.1 ok.1.2.1
    have no : ∀ {t w : Int}, WD t w → ¬ wdp B n (sk B n x.1) t := fun W z => by
      have p0 := ok.1.1
      have := wd_end b W (by omega) sb.2 z
      omega
    exact els q m' o v4 x h (by omega) C ok ho (no wd_27) (no wd_28)
  | succ d ih =>
    intro f m o v4 x h hd hf hm hv v40 C ok ho
    obtain ⟨q, rfl⟩ : ∃ q, f = q + 1 + 1 := ⟨f - 2, by omega⟩
    obtain ⟨m', rfl⟩ : ∃ q, m = q + 1 := ⟨m - 1, by omega⟩
    have sb := sk_b (B := B) b.2.1 ok.1.1 ok.1.2.1
    have p0 := ok.1.1
    have s0 := ok.1.2.2.1
    have sp := ok.2.1
    have pn := ok.1.2.1
    obtain ⟨v1, h1, e1, F1, y1, n1⟩ := wordCR b C ok.1 wd_27
    by_cases ca : wdp B n (sk B n x.1) (-27)
    · obtain ⟨z1, C1⟩ := y1 ca
      have we := wd_end b wd_27 (by omega) sb.2 ca
      rw [show t_len (-27) = 3 by decide] at C1 we
      have ok1 := mvT (sk B n x.1 + 3) x ok (by omega) (by omega)
      obtain ⟨v2, h2, e2, F2, r2⟩ := hF _ h1 C1 ok1
      have F12' : Fr RuF h h2 := (F1.wk (fun _ _ z => z.ruf)).tr F2
      have st : GX6_takeTest_L17 RT RF a (fun h3 => some (0, h3)) (fun h4 => some (0, h4)) (fun w5 h6 => if w5 = 0 then some (1, h6) else bd (GX6_put (-31) h6) (fun x8 h7 => some (1, h7))) (q + 1 + 1) (if o = true then 1 else 0) 1 v4 h = if v2 = 0 then some (0, h2) else bd (GX6_put (-30) h2) (fun x14 h13 => GX6_takeTest_L17 RT RF a (fun h3 => some (0, h3)) (fun h4 => some (0, h4)) (fun w5 h6 => if w5 = 0 then some (1, h6) else bd (GX6_put (-31) h6) (fun x8 h7 => some (1, h7))) (q + 1) (if o = true then 1 else 0) 1 (m_w32 (v4 + 1)) h13) := by
        conv => lhs; unfold GX6_takeTest_L17
        rw [if_pos (by omega), if_neg (by decide), e1, bd_some, if_neg (by omega), e2, bd_some]
      have et : tlo B n F (m' + 1) o x = rb (F (mvp (sk B n x.1 + 3) x)) (fun y => tlo B n F m' o (pu (-30) y)) := by
        conv => lhs; unfold tlo
        rw [if_pos (dec_t ca)]
      rw [st, et]
      cases hv' : F (mvp (sk B n x.1 + 3) x) with
      | inl g =>
        rw [hv'] at r2
        rw [if_pos r2.1]
        exact ⟨0, h2, rfl, F12', rfl, r2.2.1, r2.2.2⟩
      | inr y =>
        rw [hv'] at r2
        have pq := hQ _ y ok1.1 hv'
        have oy := pq.okt ok1
        have q1 : sk B n x.1 + 3 < y.1 := pq.2.1
        have q2 : y.2.1 - x.2.1 ≤ y.1 - (sk B n x.1 + 3) := pq.2.2
        have yn := oy.1.2.1
        have y0 := oy.1.2.2.1
        obtain ⟨h3, e3, F3, C3⟩ := putC (c := -30) r2.2 oy.1.2.2.1 (by omega)
        rw [if_neg (by rw [r2.1]; decide), e3, bd_some, w32_id (x := v4 + 1) (by omega) (by omega)]
        obtain ⟨v, h4, e4, F4, r4⟩ := ih (q + 1) m' o (v4 + 1) (pu (-30) y) h3 (by show (n - y.1).toNat ≤ d; omega) (by omega) (by omega) (by omega) (by omega) C3 ⟨⟨oy.1.1, yn, by show (0 : Int) ≤ y.2.1 + 1; omega, oy.1.2.2.2⟩, by show y.2.1 + 1 < y.1; omega, oy.2.2⟩ (fun z => by show y.2.1 + 1 + 1 < y.1; have := ho z; omega)
        exact ⟨v, h4, e4, F12'.tr (F3.tr F4), r4⟩
    · obtain ⟨z1, C1⟩ := n1 ca
      have ok1 := mvT _ x ok sb.1 sb.2
      obtain ⟨v2, h2, e2, F2, y2, n2⟩ := wordCR b C1 ok1.1 wd_28
      have si : sk B n (mvp (sk B n x.1) x).1 = sk B n x.1 := sk_i b.2.1 ok.1.1
      rw [si] at y2
      by_cases co : wdp B n (sk B n x.1) (-28)
      · obtain ⟨z2, C2⟩ := y2 co
        have we := wd_end b wd_28 (by omega) sb.2 co
        rw [show t_len (-28) = 2 by decide] at C2 we
        have C2' : CRu h2 B n (mvp (sk B n x.1 + 2) x) := C2
        have ok2 := mvT (sk B n x.1 + 2) x ok (by omega) (by omega)
        have et : tlo B n F (m' + 1) o x = rb (F (opn o (mvp (sk B n x.1 + 2) x))) (fun y => tlo B n F m' true y) := by
          conv => lhs; unfold tlo
          rw [if_neg (by rw [dec_f ca]; decide), if_pos (dec_t co)]
        rw [et]
        have go : ∀ g, CRu g B n (opn o (mvp (sk B n x.1 + 2) x)) → OkT n (opn o (mvp (sk B n x.1 + 2) x)) → (opn o (mvp (sk B n x.1 + 2) x)).1 = sk B n x.1 + 2 → (opn o (mvp (sk B n x.1 + 2) x)).2.1 + 1 < sk B n x.1 + 2 → Fr RuF h g → ∃ v h', bd (RF a g) (fun x8 h7 => if x8 = 0 then some (0, h7) else GX6_takeTest_L17 RT RF a (fun h3 => some (0, h3)) (fun h4 => some (0, h4)) (fun w5 h6 => if w5 = 0 then some (1, h6) else bd (GX6_put (-31) h6) (fun x8 h7 => some (1, h7))) (q + 1) 1 1 (m_w32 (v4 + 1)) h7) = some (v, h') ∧ Fr RuF h h' ∧ OutR h' B n v (rb (F (opn o (mvp (sk B n x.1 + 2) x))) (fun y => tlo B n F m' true y)) := by
          intro g Cg og pg sg Fg
          obtain ⟨v3, h3, e3, F3, r3⟩ := hF _ g Cg og
          rw [e3, bd_some]
          cases hv' : F (opn o (mvp (sk B n x.1 + 2) x)) with
          | inl k =>
            rw [hv'] at r3
            rw [if_pos r3.1]
            exact ⟨0, h3, rfl, Fg.tr F3, rfl, r3.2.1, r3.2.2⟩
          | inr y =>
            rw [hv'] at r3
            have pq := hQ _ y og.1 hv'
            have oy := pq.okt og
            have q1 := pq.2.1
            have q2 := pq.2.2
            have yn := oy.1.2.1
            rw [if_neg (by rw [r3.1]; decide), w32_id (x := v4 + 1) (by omega) (by omega)]
            obtain ⟨v, h4, e4, F4, r4⟩ := ih (q + 1) m' true (v4 + 1) y h3 (by omega) (by omega) (by omega) (by omega) (by omega) r3.2 oy (fun _ => by omega)
            exact ⟨v, h4, e4, Fg.tr (F3.tr F4), r4⟩
        have F02 : Fr RuF h h2 := (F1.wk (fun _ _ z => z.ruf)).tr (F2.wk (fun _ _ z => z.ruf))
        conv => enter [1, v, 1, h', 1, 1]; unfold GX6_takeTest_L17
        simp only [jn]
        rw [if_pos (by omega), if_neg (by decide), e1, bd_some, if_pos z1, e2, bd_some, if_neg (by omega)]
        cases o with
        | false =>
          rw [if_pos (show (if false = true then (1 : Int) else 0) = 0 by decide)]
          exact go h2 C2' ok2 rfl (by show x.2.1 + 1 < sk B n x.1 + 2; omega) F02
        | true =>
          have h1' := ho rfl
          obtain ⟨g, eg, Fg, Cg⟩ := putC (c := -31) C2' s0 (by show x.2.1 < 400; omega)
          rw [if_pos rfl, if_neg (by decide), eg, bd_some]
          exact go g Cg ⟨⟨ok2.1.1, ok2.1.2.1, by show (0 : Int) ≤ x.2.1 + 1; omega, ok2.1.2.2.2⟩, by show x.2.1 + 1 < sk B n x.1 + 2; omega, ok2.2.2⟩ rfl (by show x.2.1 + 1 + 1 < sk B n x.1 + 2; omega) (F02.tr Fg)
      · exact els q m' o v4 x h (by omega) C ok ho ca co
