/-! RULE read: the pure reader of clauses and of a whole text. Behind it: how many clauses, the state, the ends of sums, the ends of tests -/
abbrev RAL : Type := Int ⊕ (Int × RST × (Int → Int) × (Int → Int))
section
variable (B : Int → Int) (n : Int)
/-- the test behind a sum, if there is one -/
noncomputable def rif (y : RST) : RAN := if dec (wdp B n (sk B n y.1) (-25)) = true then rb (fac B n 10 (mvp (sk B n y.1 + 2) y)) (tlo B n (fac B n 10) 401 false) else .inr (mvp (sk B n y.1) y)
/-- a clause behind its word: the state behind the sum and behind the test -/
noncomputable def rcl (x : RST) : Int ⊕ (RST × RST) := match smm B n x with
  | .inl f => .inl f
  | .inr y => match rif B n y with
    | .inl f => .inl f
    | .inr z => .inr (y, z)
noncomputable def rpa : Nat → Int → RST → (Int → Int) → (Int → Int) → RAL
  | 0, _, _, _, _ => .inl 1
  | m + 1, c, x, se, te => if dec (wdp B n (sk B n x.1) (-14)) = true then (if c < 12 then (match rcl B n (mvp (sk B n x.1 + 4) x) with
      | .inl f => .inl f
      | .inr u => if bya B n (sk B n u.2.1) = -1 then .inr (c + 1, mvp (sk B n u.2.1) u.2, ups se c u.1.2.1, ups te c u.2.2.1) else if bya B n (sk B n u.2.1) = 59 then rpa m (c + 1) (mvp (sk B n u.2.1 + 1) u.2) (ups se c u.1.2.1) (ups te c u.2.2.1) else .inl (1 + 8 * sk B n u.2.1 + 0)) else .inl (1 + 8 * sk B n x.1 + 4)) else .inl (1 + 8 * sk B n x.1 + 0)
end
theorem rif_Q {B : Int → Int} {n : Int} {y z : RST} (b : BB B n) (o : OkS n y) (e : rif B n y = .inr z) : (z = mvp (sk B n y.1) y ∧ ¬ wdp B n (sk B n y.1) (-25)) ∨ PQ n tS y z := by
  have sb := sk_b (B := B) b.2.1 o.1 o.2.1
  have p0 := o.1
  unfold rif at e
  by_cases c : wdp B n (sk B n y.1) (-25)
  · rw [if_pos (dec_t c)] at e
    have we := wd_end b wd_25 (by omega) sb.2 c
    rw [show t_len (-25) = 2 by decide] at we
    have om : OkS n (mvp (sk B n y.1 + 2) y) := ⟨by show (0 : Int) ≤ sk B n y.1 + 2; omega, by show sk B n y.1 + 2 ≤ n; omega, o.2.2.1, o.2.2.2⟩
    obtain ⟨u, e1, e2⟩ := rb_r e
    exact Or.inr (PQ.pre o (by omega) (by omega) (tlo_Q b (fac_Q b 10) om 401 false u z (fac_Q b 10 _ u om e1) e2))
  · rw [if_neg (show ¬ dec (wdp B n (sk B n y.1) (-25)) = true by rw [dec_f c]; decide)] at e
    injection e with e
    exact Or.inl ⟨e.symm, c⟩
