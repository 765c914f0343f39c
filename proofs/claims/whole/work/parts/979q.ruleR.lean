/-! RULE read: what comparisons, facts and tests leave -/
theorem QQ.mc {n p : Int} {x : RST} (h : x.1 ≤ p ∧ p ≤ n ∧ 0 ≤ x.2.1 ∧ x.2.2.1 ≤ 59) : QQ n some x (p, x.2.1, x.2.2.1 + 1, x.2.2.2) := by
  refine ⟨⟨h.1, h.2.1, h.2.2.1, Int.le_refl _, by show x.2.2.1 ≤ x.2.2.1 + 1; omega, by show x.2.2.1 + 1 ≤ 60; omega⟩, fun _ _ => rfl, fun st => ?_, fun i i0 i1 => ?_, ?_⟩
  · show tyr x.2.2.2 (x.2.1 - x.2.1).toNat x.2.1 st = some st
    rw [show (x.2.1 - x.2.1).toNat = 0 by omega]
    rfl
  · have : i < x.2.1 := i1
    omega
  · show (npu x.2.2.2 x.2.1.toNat : Int) - npu x.2.2.2 x.2.1.toNat ≤ x.2.2.1 + 1 - x.2.2.1
    omega
theorem tys_cm {c : Int} {st : List Bool} (c0 : -29 ≤ c) (c1 : c ≤ -25) : tys c (false :: false :: st) = some (true :: st) := by
  unfold tys
  rw [if_neg (by omega)]
  show (if c = -32 then _ else _) = _
  rw [if_neg (by omega)]
  show (if -24 ≤ c ∧ c ≤ -20 then _ else _) = _
  rw [if_neg (by omega), if_pos ⟨c0, c1⟩]
  rfl
theorem tys_ao {c : Int} {st : List Bool} (c0 : -31 ≤ c) (c1 : c ≤ -30) : tys c (true :: true :: st) = some (true :: st) := by
  unfold tys
  rw [if_neg (by omega)]
  show (if c = -32 then _ else _) = _
  rw [if_neg (by omega)]
  show (if -24 ≤ c ∧ c ≤ -20 then _ else _) = _
  rw [if_neg (by omega), if_neg (by omega), if_pos ⟨c0, c1⟩]
  rfl
theorem tys_no {st : List Bool} : tys (-32) (true :: st) = some (true :: st) := rfl
theorem cm_b {B : Int → Int} {n q : Int} (q0 : 0 ≤ q) (h : iscm B n q = true) : q < n ∧ 1 ≤ cml B n q ∧ q + cml B n q ≤ n ∧ -29 ≤ cmc B n q ∧ cmc B n q ≤ -25 := by
  have h' : bya B n q = 60 ∨ bya B n q = 61 ∨ bya B n q = 62 := of_decide_eq_true h
  have qn : q < n := by
    by_cases c : q < n
    · exact c
    · have := bya_o (B := B) (n := n) (q := q) (by omega)
      omega
  have q1 : bya B n (q + 1) = 61 → q + 1 < n := fun z => by
    by_cases c : q + 1 < n
    · exact c
    · have := bya_o (B := B) (n := n) (q := q + 1) (by omega)
      omega
  unfold cml cmc
  by_cases c1 : bya B n q = 61
  · rw [if_pos c1, if_pos c1]
    omega
  · rw [if_neg c1, if_neg c1]
    by_cases c2 : bya B n (q + 1) = 61
    · have := q1 c2
      rw [if_pos c2, if_pos c2]
      split <;> omega
    · rw [if_neg c2, if_neg c2]
      split <;> omega
theorem cmp_Q {B : Int → Int} {n : Int} {x y : RST} (b : BB B n) (o : OkS n x) (e : cmp B n x = .inr y) : PQ n tS x y := by
  obtain ⟨z, e1, e2⟩ := rb_r e
  have h := smm_Q b o e1
  have oz := h.ok o
  have sb := sk_b (B := B) b.2.1 oz.1 oz.2.1
  have oz1 := oz.1
  by_cases c : iscm B n (sk B n z.1) = true
  · obtain ⟨q1, q2, q3, q4, q5⟩ := cm_b (q := sk B n z.1) (by omega) c
    rw [if_pos c] at e2
    unfold cnp at e2
    by_cases c6 : z.2.2.1 = 60
    · rw [if_pos (show (mvp (sk B n z.1 + cml B n (sk B n z.1)) z).2.2.1 = 60 from c6)] at e2
      exact absurd e2 (by simp)
    · rw [if_neg (show ¬ (mvp (sk B n z.1 + cml B n (sk B n z.1)) z).2.2.1 = 60 from c6)] at e2
      obtain ⟨u, e3, e4⟩ := rb_r e2
      have oz4 := oz.2.2.2
      have mc := QQ.mc (n := n) (p := sk B n z.1 + cml B n (sk B n z.1)) (x := z) ⟨by omega, q3, oz.2.2.1, by omega⟩
      have ow : OkS n (sk B n z.1 + cml B n (sk B n z.1), z.2.1, z.2.2.1 + 1, z.2.2.2) := ⟨by show (0 : Int) ≤ sk B n z.1 + cml B n (sk B n z.1); omega, q3, oz.2.2.1, by show z.2.2.1 + 1 ≤ 60; omega⟩
      have v : PQ n nS (sk B n z.1 + cml B n (sk B n z.1), z.2.1, z.2.2.1 + 1, z.2.2.2) u := smm_Q b ow e3
      have ou := v.ok ow
      have s := QQ.sn (n := n) (c := cmc B n (sk B n z.1)) (x := u) ⟨ou.2.1, ou.2.2.1, ou.2.2.2⟩ (by omega) (by omega)
      have a1 := QQ.tr h.1 mc (H := nS) (fun st => rfl)
      have a2 := QQ.tr a1 v.1 (H := fun st => some (false :: false :: st)) (fun st => rfl)
      have a3 := QQ.tr a2 s (H := tS) (fun st => tys_cm q4 q5)
      injection e4 with e4
      rw [← e4]
      have v1 : sk B n z.1 + cml B n (sk B n z.1) < u.1 := v.2.1
      have v2 : u.2.1 - z.2.1 ≤ u.1 - (sk B n z.1 + cml B n (sk B n z.1)) := v.2.2
      have h2 := h.2
      exact ⟨a3, by show x.1 < u.1; omega, by show u.2.1 + 1 - x.2.1 ≤ u.1 - x.1; omega⟩
  · rw [if_neg c] at e2
    exact absurd e2 (by simp)
def FQ (n : Int) (F : RST → RAN) : Prop := ∀ x y, OkS n x → F x = .inr y → PQ n tS x y
def TQ (n : Int) (o : Bool) (x0 x : RST) : Prop := if o = true then QQ n ttS x0 x ∧ x0.1 < x.1 ∧ x.2.1 - x0.2.1 + 1 ≤ x.1 - x0.1 else PQ n tS x0 x
theorem TQ.t {n : Int} {x0 x : RST} (h : TQ n true x0 x) : QQ n ttS x0 x ∧ x0.1 < x.1 ∧ x.2.1 - x0.2.1 + 1 ≤ x.1 - x0.1 := h
theorem TQ.f {n : Int} {x0 x : RST} (h : TQ n false x0 x) : PQ n tS x0 x := h
theorem tlo_Q {B : Int → Int} {n : Int} {F : RST → RAN} {x0 : RST} (b : BB B n) (hF : FQ n F) (o0 : OkS n x0) : ∀ (m : Nat) (o : Bool) (x y : RST), TQ n o x0 x → tlo B n F m o x = .inr y → PQ n tS x0 y := by
  intro m
  induction m with
  | zero =>
    intro o x y h e
    exact absurd e (by simp [tlo])
  | succ m ih =>
    intro o x y h e
    have ox : OkS n x := by
      cases o with
      | false => exact h.f.ok o0
      | true =>
        obtain ⟨⟨⟨a1, a2, a3, a4, a5, a6⟩, _⟩, b1, c1⟩ := h.t
        exact ⟨by have := o0.1; omega, a2, by omega, a6⟩
    have sb := sk_b (B := B) b.2.1 ox.1 ox.2.1
    have ox1 := ox.1
    unfold tlo at e
    by_cases c1 : wdp B n (sk B n x.1) (-27)
    · rw [if_pos (dec_t c1)] at e
      obtain ⟨z, e1, e2⟩ := rb_r e
      have we := wd_end b wd_27 (by omega) sb.2 c1
      rw [show t_len (-27) = 3 by decide] at we
      have om : OkS n (mvp (sk B n x.1 + 3) x) := ⟨by show (0 : Int) ≤ sk B n x.1 + 3; omega, by show sk B n x.1 + 3 ≤ n; omega, ox.2.2.1, ox.2.2.2⟩
      have v := hF _ z om e1
      have oz := v.ok om
      have mm := QQ.mv (n := n) (p := sk B n x.1 + 3) (x := x) ⟨by omega, by omega, ox.2.2.1, ox.2.2.2⟩
      have s := QQ.sn (n := n) (c := -30) (x := z) ⟨oz.2.1, oz.2.2.1, oz.2.2.2⟩ (by decide) (by decide)
      have v1 : sk B n x.1 + 3 < z.1 := v.2.1
      have v2 : z.2.1 - x.2.1 ≤ z.1 - (sk B n x.1 + 3) := v.2.2
      refine ih o _ y ?_ e2
      cases o with
      | false =>
        have h2 := h.f.2
        have a := QQ.tr (QQ.tr (QQ.tr h.f.1 mm (H := tS) (fun st => rfl)) v.1 (H := ttS) (fun st => rfl)) s (H := tS) (fun st => tys_ao (by decide) (by decide))
        exact ⟨a, by show x0.1 < z.1; omega, by show z.2.1 + 1 - x0.2.1 ≤ z.1 - x0.1; omega⟩
      | true =>
        have h2 := h.t.2
        have a := QQ.tr (QQ.tr (QQ.tr h.t.1 mm (H := ttS) (fun st => rfl)) v.1 (H := fun st => some (true :: true :: true :: st)) (fun st => rfl)) s (H := ttS) (fun st => tys_ao (by decide) (by decide))
        exact ⟨a, by show x0.1 < z.1; omega, by show z.2.1 + 1 - x0.2.1 + 1 ≤ z.1 - x0.1; omega⟩
    · rw [if_neg (by rw [dec_f c1]; decide)] at e
      by_cases c2 : wdp B n (sk B n x.1) (-28)
      · rw [if_pos (dec_t c2)] at e
        obtain ⟨z, e1, e2⟩ := rb_r e
        have we := wd_end b wd_28 (by omega) sb.2 c2
        rw [show t_len (-28) = 2 by decide] at we
        have om : OkS n (mvp (sk B n x.1 + 2) x) := ⟨by show (0 : Int) ≤ sk B n x.1 + 2; omega, by show sk B n x.1 + 2 ≤ n; omega, ox.2.2.1, ox.2.2.2⟩
        have mm := QQ.mv (n := n) (p := sk B n x.1 + 2) (x := x) ⟨by omega, by omega, ox.2.2.1, ox.2.2.2⟩
        refine ih true _ y ?_ e2
        cases o with
        | false =>
          have h2 := h.f.2
          have v : PQ n tS (mvp (sk B n x.1 + 2) x) z := hF _ z om e1
          have v1 : sk B n x.1 + 2 < z.1 := v.2.1
          have v2 : z.2.1 - x.2.1 ≤ z.1 - (sk B n x.1 + 2) := v.2.2
          have a := QQ.tr (QQ.tr h.f.1 mm (H := tS) (fun st => rfl)) v.1 (H := ttS) (fun st => rfl)
          exact ⟨a, by show x0.1 < z.1; omega, by show z.2.1 - x0.2.1 + 1 ≤ z.1 - x0.1; omega⟩
        | true =>
          have h2 := h.t.2
          have s := QQ.sn (n := n) (c := -31) (x := mvp (sk B n x.1 + 2) x) ⟨om.2.1, om.2.2.1, om.2.2.2⟩ (by decide) (by decide)
          have op : OkS n (pu (-31) (mvp (sk B n x.1 + 2) x)) := ⟨om.1, om.2.1, by show (0 : Int) ≤ x.2.1 + 1; have := ox.2.2.1; omega, om.2.2.2⟩
          have v : PQ n tS (pu (-31) (mvp (sk B n x.1 + 2) x)) z := hF _ z op e1
          have v1 : sk B n x.1 + 2 < z.1 := v.2.1
          have v2 : z.2.1 - (x.2.1 + 1) ≤ z.1 - (sk B n x.1 + 2) := v.2.2
          have a := QQ.tr (QQ.tr (QQ.tr h.t.1 mm (H := ttS) (fun st => rfl)) s (H := tS) (fun st => tys_ao (by decide) (by decide))) v.1 (H := ttS) (fun st => rfl)
          exact ⟨a, by show x0.1 < z.1; omega, by show z.2.1 - x0.2.1 + 1 ≤ z.1 - x0.1; omega⟩
      · rw [if_neg (by rw [dec_f c2]; decide)] at e
        injection e with e
        rw [← e]
        have mm := QQ.mv (n := n) (p := sk B n x.1) (x := x) ⟨by omega, by omega, ox.2.2.1, ox.2.2.2⟩
        cases o with
        | false =>
          have h2 := h.f.2
          exact ⟨QQ.tr h.f.1 mm (fun st => rfl), by show x0.1 < sk B n x.1; omega, by show x.2.1 - x0.2.1 ≤ sk B n x.1 - x0.1; omega⟩
        | true =>
          have h2 := h.t.2
          have s := QQ.sn (n := n) (c := -31) (x := mvp (sk B n x.1) x) ⟨sb.2, ox.2.2.1, ox.2.2.2⟩ (by decide) (by decide)
          exact ⟨QQ.tr (QQ.tr h.t.1 mm (H := ttS) (fun st => rfl)) s (H := tS) (fun st => tys_ao (by decide) (by decide)), by show x0.1 < sk B n x.1; omega, by show x.2.1 + 1 - x0.2.1 ≤ sk B n x.1 - x0.1; omega⟩
theorem PQ.pre {n p : Int} {F : List Bool → Option (List Bool)} {x y : RST} (o : OkS n x) (hp : x.1 ≤ p) (pn : p ≤ n) (h : PQ n F (mvp p x) y) : PQ n F x y := by
  have mm := QQ.mv (n := n) (p := p) (x := x) ⟨hp, pn, o.2.2.1, o.2.2.2⟩
  have h1 : p < y.1 := h.2.1
  have h2 : y.2.1 - x.2.1 ≤ y.1 - p := h.2.2
  exact ⟨QQ.tr mm h.1 (fun st => rfl), by omega, by omega⟩
theorem fac_Q {B : Int → Int} {n : Int} (b : BB B n) : ∀ k : Nat, FQ n (fac B n k) := by
  intro k
  induction k with
  | zero =>
    intro x y o e
    have sb := sk_b (B := B) b.2.1 o.1 o.2.1
    have o1 := o.1
    unfold fac at e
    split at e
    · exact absurd e (by simp)
    split at e
    · exact absurd e (by simp)
    exact PQ.pre o sb.1 sb.2 (cmp_Q b ⟨by show (0 : Int) ≤ sk B n x.1; omega, sb.2, o.2.2.1, o.2.2.2⟩ e)
  | succ k ih =>
    intro x y o e
    have sb := sk_b (B := B) b.2.1 o.1 o.2.1
    have o1 := o.1
    unfold fac at e
    by_cases c1 : wdp B n (sk B n x.1) (-26)
    · rw [if_pos (dec_t c1)] at e
      obtain ⟨z, e1, e2⟩ := rb_r e
      have we := wd_end b wd_26 (by omega) sb.2 c1
      rw [show t_len (-26) = 3 by decide] at we
      have om : OkS n (mvp (sk B n x.1 + 3) x) := ⟨by show (0 : Int) ≤ sk B n x.1 + 3; omega, by show sk B n x.1 + 3 ≤ n; omega, o.2.2.1, o.2.2.2⟩
      have v := ih _ z om e1
      have oz := v.ok om
      have mm := QQ.mv (n := n) (p := sk B n x.1 + 3) (x := x) ⟨by omega, by omega, o.2.2.1, o.2.2.2⟩
      have s := QQ.sn (n := n) (c := -32) (x := z) ⟨oz.2.1, oz.2.2.1, oz.2.2.2⟩ (by decide) (by decide)
      have v1 : sk B n x.1 + 3 < z.1 := v.2.1
      have v2 : z.2.1 - x.2.1 ≤ z.1 - (sk B n x.1 + 3) := v.2.2
      injection e2 with e2
      rw [← e2]
      exact ⟨QQ.tr (QQ.tr mm v.1 (H := tS) (fun st => rfl)) s (H := tS) (fun st => tys_no), by show x.1 < z.1; omega, by show z.2.1 + 1 - x.2.1 ≤ z.1 - x.1; omega⟩
    · rw [if_neg (by rw [dec_f c1]; decide)] at e
      by_cases c2 : bya B n (sk B n x.1) = 91
      · rw [if_pos c2] at e
        obtain ⟨z, e1, e2⟩ := rb_r e
        obtain ⟨u, e3, e4⟩ := rb_r e2
        have qn : sk B n x.1 < n := by
          by_cases c : sk B n x.1 < n
          · exact c
          · have := bya_o (B := B) (n := n) (q := sk B n x.1) (by omega)
            omega
        have om : OkS n (mvp (sk B n x.1 + 1) x) := ⟨by show (0 : Int) ≤ sk B n x.1 + 1; omega, by show sk B n x.1 + 1 ≤ n; omega, o.2.2.1, o.2.2.2⟩
        have v := ih _ z om e1
        have w := tlo_Q b ih om 401 false z u v e3
        have ou := w.ok om
        have ou1 := ou.1
        have su := sk_b (B := B) b.2.1 ou.1 ou.2.1
        have w1 : sk B n x.1 + 1 < u.1 := w.2.1
        have w2 : u.2.1 - x.2.1 ≤ u.1 - (sk B n x.1 + 1) := w.2.2
        by_cases c3 : bya B n (sk B n u.1) = 93
        · rw [if_pos c3] at e4
          have qn2 : sk B n u.1 < n := by
            by_cases c : sk B n u.1 < n
            · exact c
            · have := bya_o (B := B) (n := n) (q := sk B n u.1) (by omega)
              omega
          injection e4 with e4
          rw [← e4]
          have mm := QQ.mv (n := n) (p := sk B n u.1 + 1) (x := u) ⟨by omega, by omega, ou.2.2.1, ou.2.2.2⟩
          have m0 := QQ.mv (n := n) (p := sk B n x.1 + 1) (x := x) ⟨by omega, by omega, o.2.2.1, o.2.2.2⟩
          exact ⟨QQ.tr (QQ.tr m0 w.1 (H := tS) (fun st => rfl)) mm (H := tS) (fun st => rfl), by show x.1 < sk B n u.1 + 1; omega, by show u.2.1 - x.2.1 ≤ sk B n u.1 + 1 - x.1; omega⟩
        · rw [if_neg c3] at e4
          exact absurd e4 (by simp)
      · rw [if_neg c2] at e
        exact PQ.pre o sb.1 sb.2 (cmp_Q b ⟨by show (0 : Int) ≤ sk B n x.1; omega, sb.2, o.2.2.1, o.2.2.2⟩ e)
