/-! RULE read: words; what the pure reader leaves -/
theorem wd_15 : WD (-15) 482854658917 := by
  refine ⟨⟨by decide, by decide⟩, by decide, by decide, fun i i0 i1 => ?_, by decide⟩
  have e : t_len (-15) = 5 := by decide
  have hi : i = 0 ∨ i = 1 ∨ i = 2 ∨ i = 3 ∨ i = 4 := by omega
  rcases hi with rfl | rfl | rfl | rfl | rfl <;> decide
theorem wd_16 : WD (-16) 1668244581 := by
  refine ⟨⟨by decide, by decide⟩, by decide, by decide, fun i i0 i1 => ?_, by decide⟩
  have e : t_len (-16) = 4 := by decide
  have hi : i = 0 ∨ i = 1 ∨ i = 2 ∨ i = 3 := by omega
  rcases hi with rfl | rfl | rfl | rfl <;> decide
theorem wd_17 : WD (-17) 439855772532 := by
  refine ⟨⟨by decide, by decide⟩, by decide, by decide, fun i i0 i1 => ?_, by decide⟩
  have e : t_len (-17) = 5 := by decide
  have hi : i = 0 ∨ i = 1 ∨ i = 2 ∨ i = 3 ∨ i = 4 := by omega
  rcases hi with rfl | rfl | rfl | rfl | rfl <;> decide
theorem wd_18 : WD (-18) 1818325876 := by
  refine ⟨⟨by decide, by decide⟩, by decide, by decide, fun i i0 i1 => ?_, by decide⟩
  have e : t_len (-18) = 4 := by decide
  have hi : i = 0 ∨ i = 1 ∨ i = 2 ∨ i = 3 := by omega
  rcases hi with rfl | rfl | rfl | rfl <;> decide
theorem wd_19 : WD (-19) 1752132709 := by
  refine ⟨⟨by decide, by decide⟩, by decide, by decide, fun i i0 i1 => ?_, by decide⟩
  have e : t_len (-19) = 4 := by decide
  have hi : i = 0 ∨ i = 1 ∨ i = 2 ∨ i = 3 := by omega
  rcases hi with rfl | rfl | rfl | rfl <;> decide
theorem wd_20 : WD (-20) 465893420647 := by
  refine ⟨⟨by decide, by decide⟩, by decide, by decide, fun i i0 i1 => ?_, by decide⟩
  have e : t_len (-20) = 5 := by decide
  have hi : i = 0 ∨ i = 1 ∨ i = 2 ∨ i = 3 ∨ i = 4 := by omega
  rcases hi with rfl | rfl | rfl | rfl | rfl <;> decide
theorem wd_21 : WD (-21) 6711668 := by
  refine ⟨⟨by decide, by decide⟩, by decide, by decide, fun i i0 i1 => ?_, by decide⟩
  have e : t_len (-21) = 3 := by decide
  have hi : i = 0 ∨ i = 1 ∨ i = 2 := by omega
  rcases hi with rfl | rfl | rfl <;> decide
theorem wd_22 : WD (-22) 33602627781095015 := by
  refine ⟨⟨by decide, by decide⟩, by decide, by decide, fun i i0 i1 => ?_, by decide⟩
  have e : t_len (-22) = 7 := by decide
  have hi : i = 0 ∨ i = 1 ∨ i = 2 ∨ i = 3 ∨ i = 4 ∨ i = 5 ∨ i = 6 := by omega
  rcases hi with rfl | rfl | rfl | rfl | rfl | rfl | rfl <;> decide
theorem wd_23 : WD (-23) 1650550643 := by
  refine ⟨⟨by decide, by decide⟩, by decide, by decide, fun i i0 i1 => ?_, by decide⟩
  have e : t_len (-23) = 4 := by decide
  have hi : i = 0 ∨ i = 1 ∨ i = 2 ∨ i = 3 := by omega
  rcases hi with rfl | rfl | rfl | rfl <;> decide
theorem wd_24 : WD (-24) 1953854062 := by
  refine ⟨⟨by decide, by decide⟩, by decide, by decide, fun i i0 i1 => ?_, by decide⟩
  have e : t_len (-24) = 4 := by decide
  have hi : i = 0 ∨ i = 1 ∨ i = 2 ∨ i = 3 := by omega
  rcases hi with rfl | rfl | rfl | rfl <;> decide
theorem wd_25 : WD (-25) 26982 := by
  refine ⟨⟨by decide, by decide⟩, by decide, by decide, fun i i0 i1 => ?_, by decide⟩
  have e : t_len (-25) = 2 := by decide
  have hi : i = 0 ∨ i = 1 := by omega
  rcases hi with rfl | rfl <;> decide
theorem wd_26 : WD (-26) 7237492 := by
  refine ⟨⟨by decide, by decide⟩, by decide, by decide, fun i i0 i1 => ?_, by decide⟩
  have e : t_len (-26) = 3 := by decide
  have hi : i = 0 ∨ i = 1 ∨ i = 2 := by omega
  rcases hi with rfl | rfl | rfl <;> decide
theorem wd_27 : WD (-27) 6385252 := by
  refine ⟨⟨by decide, by decide⟩, by decide, by decide, fun i i0 i1 => ?_, by decide⟩
  have e : t_len (-27) = 3 := by decide
  have hi : i = 0 ∨ i = 1 ∨ i = 2 := by omega
  rcases hi with rfl | rfl | rfl <;> decide
theorem wd_28 : WD (-28) 28530 := by
  refine ⟨⟨by decide, by decide⟩, by decide, by decide, fun i i0 i1 => ?_, by decide⟩
  have e : t_len (-28) = 2 := by decide
  have hi : i = 0 ∨ i = 1 := by omega
  rcases hi with rfl | rfl <;> decide
theorem wd_14 : WD (-14) 1952541541 := by
  refine ⟨⟨by decide, by decide⟩, by decide, by decide, fun i i0 i1 => ?_, by decide⟩
  have e : t_len (-14) = 4 := by decide
  have hi : i = 0 ∨ i = 1 ∨ i = 2 ∨ i = 3 := by omega
  rcases hi with rfl | rfl | rfl | rfl <;> decide
def wcd (v : Int) : Int := if v = 0 then 482854658917 else if v = 1 then 1668244581 else if v = 2 then 439855772532 else if v = 3 then 1818325876 else if v = 4 then 1752132709 else if v = 5 then 465893420647 else if v = 6 then 1919905645 else if v = 7 then 6711668 else if v = 8 then 33602627781095015 else if v = 9 then 1650550643 else 1953854062
theorem wd_txt {v : Int} (v0 : 0 ≤ v) (v1 : v ≤ 10) : WD (txt v) (wcd v) := by
  have hv : v = 0 ∨ v = 1 ∨ v = 2 ∨ v = 3 ∨ v = 4 ∨ v = 5 ∨ v = 6 ∨ v = 7 ∨ v = 8 ∨ v = 9 ∨ v = 10 := by omega
  rcases hv with rfl | rfl | rfl | rfl | rfl | rfl | rfl | rfl | rfl | rfl | rfl
  · exact wd_15
  · exact wd_16
  · exact wd_17
  · exact wd_18
  · exact wd_19
  · exact wd_20
  · exact wd_11
  · exact wd_21
  · exact wd_22
  · exact wd_23
  · exact wd_24
theorem fwd_p {B : Int → Int} {n q : Int} : ∀ (m : Nat) (v : Int), 0 ≤ fwd B n q m v + 1 ∧ (fwd B n q m v = -1 ∨ (v ≤ fwd B n q m v ∧ fwd B n q m v < v + m ∧ wdp B n q (txt (fwd B n q m v)))) ∨ v < 0 := by
  intro m
  induction m with
  | zero =>
    intro v
    exact Or.inl ⟨by show (0 : Int) ≤ -1 + 1; decide, Or.inl rfl⟩
  | succ m ih =>
    intro v
    by_cases v0 : v < 0
    · exact Or.inr v0
    refine Or.inl ?_
    by_cases c : wdp B n q (txt v)
    · rw [show fwd B n q (m + 1) v = v from if_pos (dec_t c)]
      exact ⟨by omega, Or.inr ⟨Int.le_refl _, by omega, c⟩⟩
    · rw [show fwd B n q (m + 1) v = fwd B n q m (v + 1) from if_neg (by rw [dec_f c]; decide)]
      rcases ih (v + 1) with ⟨a1, a2⟩ | a
      · refine ⟨a1, ?_⟩
        rcases a2 with a2 | ⟨b1, b2, b3⟩
        · exact Or.inl a2
        · exact Or.inr ⟨by omega, by omega, b3⟩
      · omega
theorem wov_p {B : Int → Int} {n q : Int} : wov B n q = -1 ∨ (0 ≤ wov B n q ∧ wov B n q ≤ 10 ∧ wdp B n q (txt (wov B n q))) := by
  have := fwd_p (B := B) (n := n) (q := q) 11 0
  unfold wov
  rcases this with ⟨a1, a2⟩ | a
  · rcases a2 with a2 | ⟨b1, b2, b3⟩
    · exact Or.inl a2
    · exact Or.inr ⟨b1, by omega, b3⟩
  · omega
theorem wd_end {B : Int → Int} {n q a w : Int} (b : BB B n) (W : WD a w) (q0 : 0 ≤ q) (q1 : q ≤ n) (h : wdp B n q a) : 1 ≤ t_len a ∧ q + t_len a ≤ n := by
  have r := wd_run b W q0 h
  have rr := run_p (B := B) (q := q) isL_n b.2.1 q0
  have := rr.2.1 q1
  exact ⟨W.2.1, by omega⟩
def OkS (n : Int) (x : RST) : Prop := 0 ≤ x.1 ∧ x.1 ≤ n ∧ 0 ≤ x.2.1 ∧ x.2.2.1 ≤ 60
def PQ (n : Int) (F : List Bool → Option (List Bool)) (x y : RST) : Prop := QQ n F x y ∧ x.1 < y.1 ∧ y.2.1 - x.2.1 ≤ y.1 - x.1
def nS (st : List Bool) : Option (List Bool) := some (false :: st)
def tS (st : List Bool) : Option (List Bool) := some (true :: st)
def ttS (st : List Bool) : Option (List Bool) := some (true :: true :: st)
theorem PQ.ok {n : Int} {F : List Bool → Option (List Bool)} {x y : RST} (h : PQ n F x y) (o : OkS n x) : OkS n y := by
  obtain ⟨⟨⟨a1, a2, a3, a4, a5, a6⟩, _⟩, b, c⟩ := h
  exact ⟨by have := o.1; omega, a2, by omega, a6⟩
theorem val_Q {B : Int → Int} {n : Int} {x y : RST} (b : BB B n) (o : OkS n x) (e : val B n x = .inr y) : PQ n nS x y := by
  obtain ⟨o1, o2, o3, o4⟩ := o
  have sb := sk_b (B := B) b.2.1 o1 o2
  unfold val cnp at e
  by_cases c1 : isD (bya B n (sk B n x.1)) = true
  · rw [if_pos c1] at e
    by_cases c2 : nok B n 0 99999 x.1
    · rw [if_pos (dec_t c2)] at e
      by_cases c3 : (mvp (npo B n x.1) x).2.2.1 = 60
      · rw [if_pos c3] at e
        exact absurd e (by simp)
      · rw [if_neg c3] at e
        have c3' : x.2.2.1 ≠ 60 := c3
        have nb := npo_b (B := B) b.2.1 o1 o2
        have l := c2.1
        have vb := nvl_b (B := B) b.2.1 o1 o2
        have up : x.1 < npo B n x.1 := by
          unfold npo
          omega
        have q := QQ.pv (n := n) (c := nvl B n x.1) (p := npo B n x.1) (x := x) ⟨by omega, by omega, o3, by omega⟩ (by omega) (by omega)
        injection e with e
        rw [← e]
        exact ⟨q, up, by show x.2.1 + 1 - x.2.1 ≤ npo B n x.1 - x.1; omega⟩
    · rw [if_neg (by rw [dec_f c2]; decide)] at e
      exact absurd e (by simp)
  · rw [if_neg c1] at e
    by_cases c2 : wov B n (sk B n x.1) < 0
    · rw [if_pos c2] at e
      exact absurd e (by simp)
    · rw [if_neg c2] at e
      rcases wov_p (B := B) (n := n) (q := sk B n x.1) with z | ⟨w0, w1, w2⟩
      · omega
      obtain ⟨l1, l2⟩ := wd_end b (wd_txt w0 w1) (by omega) sb.2 w2
      by_cases c3 : x.2.2.1 = 60
      · rw [if_pos (show (mvp (sk B n x.1 + t_len (txt (wov B n (sk B n x.1)))) x).2.2.1 = 60 from c3)] at e
        exact absurd e (by simp)
      · rw [if_neg (show ¬ (mvp (sk B n x.1 + t_len (txt (wov B n (sk B n x.1)))) x).2.2.1 = 60 from c3)] at e
        have q := QQ.pv (n := n) (c := -1 - wov B n (sk B n x.1)) (p := sk B n x.1 + t_len (txt (wov B n (sk B n x.1)))) (x := x) ⟨by omega, by omega, o3, by omega⟩ (by omega) (by omega)
        injection e with e
        rw [← e]
        exact ⟨q, by show x.1 < sk B n x.1 + t_len (txt (wov B n (sk B n x.1))); omega, by show x.2.1 + 1 - x.2.1 ≤ sk B n x.1 + t_len (txt (wov B n (sk B n x.1))) - x.1; omega⟩
theorem rb_r {r : RAN} {k : RST → RAN} {y : RST} (e : rb r k = .inr y) : ∃ z, r = .inr z ∧ k z = .inr y := by
  match r, e with
  | .inl f, e => exact absurd e (by simp [rb])
  | .inr z, e => exact ⟨z, rfl, e⟩
theorem jo_in {B : Int → Int} {n q : Int} (h : jo (bya B n q) ≠ -99) (q0 : 0 ≤ q) : q < n := by
  by_cases c : q < n
  · exact c
  · rw [bya_o (by omega)] at h
    exact absurd rfl h
/-- a value on the stack, another, a sign -/
theorem PQ.op {n c p : Int} {x0 x y : RST} (h : PQ n nS x0 x) (o : OkS n x0) (hp : x.1 < p) (pn : p ≤ n) (v : PQ n nS (mvp p x) y) (c0 : -24 ≤ c) (c1 : c ≤ -20) : PQ n nS x0 (pu c y) := by
  have ox := h.ok o
  have m := QQ.mv (n := n) (p := p) (x := x) ⟨by omega, pn, ox.2.2.1, ox.2.2.2⟩
  have oy := v.ok (x := mvp p x) ⟨by show (0 : Int) ≤ p; have := ox.1; omega, pn, ox.2.2.1, ox.2.2.2⟩
  have a := QQ.tr h.1 m (H := nS) (fun st => rfl)
  have a2 := QQ.tr a v.1 (H := fun st => some (false :: false :: st)) (fun st => rfl)
  have s := QQ.sn (n := n) (c := c) (x := y) ⟨oy.2.1, oy.2.2.1, oy.2.2.2⟩ (by omega) (by omega)
  have a3 := QQ.tr a2 s (H := nS) (fun st => by
    show tys c (false :: false :: st) = some (false :: st)
    unfold tys
    rw [if_neg (by omega)]
    show (if c = -32 then _ else _) = _
    rw [if_neg (by omega)]
    show (if -24 ≤ c ∧ c ≤ -20 then _ else _) = _
    rw [if_pos ⟨c0, c1⟩]
    rfl)
  have v1 : p < y.1 := v.2.1
  have v2 : y.2.1 - x.2.1 ≤ y.1 - p := v.2.2
  have h2 := h.2
  exact ⟨a3, by show x0.1 < y.1; omega, by show y.2.1 + 1 - x0.2.1 ≤ y.1 - x0.1; omega⟩
theorem telp_Q {B : Int → Int} {n : Int} {x0 : RST} (b : BB B n) (o : OkS n x0) : ∀ (m : Nat) (x y : RST), PQ n nS x0 x → telp B n m x = .inr y → PQ n nS x0 y := by
  intro m
  induction m with
  | zero =>
    intro x y h e
    exact absurd e (by simp [telp])
  | succ m ih =>
    intro x y h e
    have ox := h.ok o
    have sb := sk_b (B := B) b.2.1 ox.1 ox.2.1
    unfold telp at e
    by_cases c : isJ2 (jo (bya B n (sk B n x.1))) = true
    · rw [if_pos c] at e
      obtain ⟨z, e1, e2⟩ := rb_r e
      have cc : jo (bya B n (sk B n x.1)) = -22 ∨ jo (bya B n (sk B n x.1)) = -23 ∨ jo (bya B n (sk B n x.1)) = -24 := of_decide_eq_true c
      have qn := jo_in (B := B) (n := n) (q := sk B n x.1) (by omega) (by have := ox.1; omega)
      have v := val_Q b (x := mvp (sk B n x.1 + 1) x) ⟨by show (0 : Int) ≤ sk B n x.1 + 1; have := ox.1; omega, by show sk B n x.1 + 1 ≤ n; omega, ox.2.2.1, ox.2.2.2⟩ e1
      exact ih _ y (h.op o (by omega) (by omega) v (by omega) (by omega)) e2
    · rw [if_neg c] at e
      injection e with e
      rw [← e]
      have m := QQ.mv (n := n) (p := sk B n x.1) (x := x) ⟨by omega, by omega, ox.2.2.1, ox.2.2.2⟩
      have h2 := h.2
      exact ⟨QQ.tr h.1 m (fun st => rfl), by show x0.1 < sk B n x.1; omega, by show x.2.1 - x0.2.1 ≤ sk B n x.1 - x0.1; omega⟩
theorem trm_Q {B : Int → Int} {n : Int} {x y : RST} (b : BB B n) (o : OkS n x) (e : trm B n x = .inr y) : PQ n nS x y := by
  obtain ⟨z, e1, e2⟩ := rb_r e
  exact telp_Q b o 401 z y (val_Q b o e1) e2
theorem sulp_Q {B : Int → Int} {n : Int} {x0 : RST} (b : BB B n) (o : OkS n x0) : ∀ (m : Nat) (x y : RST), PQ n nS x0 x → sulp B n m x = .inr y → PQ n nS x0 y := by
  intro m
  induction m with
  | zero =>
    intro x y h e
    exact absurd e (by simp [sulp])
  | succ m ih =>
    intro x y h e
    have ox := h.ok o
    have sb := sk_b (B := B) b.2.1 ox.1 ox.2.1
    unfold sulp at e
    by_cases c : isJ1 (jo (bya B n (sk B n x.1))) = true
    · rw [if_pos c] at e
      obtain ⟨z, e1, e2⟩ := rb_r e
      have cc : jo (bya B n (sk B n x.1)) = -20 ∨ jo (bya B n (sk B n x.1)) = -21 := of_decide_eq_true c
      have qn := jo_in (B := B) (n := n) (q := sk B n x.1) (by omega) (by have := ox.1; omega)
      have v := trm_Q b (x := mvp (sk B n x.1 + 1) x) ⟨by show (0 : Int) ≤ sk B n x.1 + 1; have := ox.1; omega, by show sk B n x.1 + 1 ≤ n; omega, ox.2.2.1, ox.2.2.2⟩ e1
      exact ih _ y (h.op o (by omega) (by omega) v (by omega) (by omega)) e2
    · rw [if_neg c] at e
      injection e with e
      rw [← e]
      have m := QQ.mv (n := n) (p := sk B n x.1) (x := x) ⟨by omega, by omega, ox.2.2.1, ox.2.2.2⟩
      have h2 := h.2
      exact ⟨QQ.tr h.1 m (fun st => rfl), by show x0.1 < sk B n x.1; omega, by show x.2.1 - x0.2.1 ≤ sk B n x.1 - x0.1; omega⟩
theorem smm_Q {B : Int → Int} {n : Int} {x y : RST} (b : BB B n) (o : OkS n x) (e : smm B n x = .inr y) : PQ n nS x y := by
  obtain ⟨z, e1, e2⟩ := rb_r e
  exact sulp_Q b o 401 z y (trm_Q b o e1) e2
