/-! WHAT A RULE SAYS -/
theorem band15 {x : Int} (h1 : 0 ≤ x) (h2 : x ≤ 2147483647) : m_band x 15 = x % 16 := by
  unfold m_band
  have e1 : (Int32.ofInt x &&& Int32.ofInt 15).toInt = ((Int32.ofInt x).toBitVec &&& 15#32).toInt := rfl
  rw [e1]
  have e2 : ((Int32.ofInt x).toBitVec &&& 15#32).toNat = (Int32.ofInt x).toBitVec.toNat % 16 := by
    rw [BitVec.toNat_and]
    exact Nat.and_two_pow_sub_one_eq_mod _ 4
  have e3 : (Int32.ofInt x).toBitVec.toInt = x := by
    have := i32_bm (x := x)
    rw [w32_id (by omega) h2] at this
    exact this
  have e4 := BitVec.toInt_eq_toNat_cond (Int32.ofInt x).toBitVec
  have e5 := BitVec.toInt_eq_toNat_cond ((Int32.ofInt x).toBitVec &&& 15#32)
  have e6 := (Int32.ofInt x).toBitVec.isLt
  rw [e3] at e4
  rw [e5, e2]
  split at e4 <;> split <;> omega
theorem shr_4 {x : Int} (h1 : -2147483648 ≤ x) (h2 : x ≤ 2147483647) : m_shr x 4 = x / 16 := by
  unfold m_shr
  have e1 : (Int32.ofInt x >>> (Int32.ofInt 4 &&& 31)).toInt = ((Int32.ofInt x).toBitVec.sshiftRight 4).toInt := rfl
  have e3 : (Int32.ofInt x).toBitVec.toInt = x := by
    have := i32_bm (x := x)
    rw [w32_id h1 h2] at this
    exact this
  rw [e1, BitVec.toInt_sshiftRight, e3, Int.shiftRight_eq_div_pow]
  rfl
/-- two joined -/
def jn2 (c x y : Int) : Int := if c = -30 then m_land x y else if c = -29 then (if y < x then 1 else 0) else if c = -28 then (if x < y then 0 else 1) else if c = -27 then (if x = y then 1 else 0) else if c = -26 then (if y < x then 0 else 1) else if c = -25 then (if x < y then 1 else 0) else if c = -24 then (if y = 0 then 0 else Int.tmod x y) else if c = -23 then (if y = 0 then 0 else m_w64 (Int.tdiv x y)) else if c = -22 then m_w64 (x * y) else if c = -21 then m_w64 (x - y) else if c = -20 then m_w64 (x + y) else m_lor x y
theorem join_ok {c x y : Int} {h : MH} : GX5_join c x y h = some (jn2 c x y, h) := by
  unfold GX5_join jn2
  by_cases c30 : c = -30
  · rw [if_pos c30, if_pos c30]
  rw [if_neg c30, if_neg c30]
  by_cases c29 : c = -29
  · rw [if_pos c29, if_pos c29]
    by_cases q : y < x
    · rw [if_pos (lc_gt.2 q), if_pos q]
    · rw [if_neg (fun z => q (lc_gt.1 z)), if_neg q]
  rw [if_neg c29, if_neg c29]
  by_cases c28 : c = -28
  · rw [if_pos c28, if_pos c28]
    by_cases q : x < y
    · rw [if_pos (lc_lt.2 q), if_pos q]
    · rw [if_neg (fun z => q (lc_lt.1 z)), if_neg q]
  rw [if_neg c28, if_neg c28]
  by_cases c27 : c = -27
  · rw [if_pos c27, if_pos c27]
    by_cases q : x = y
    · rw [if_pos (lc_eq.2 q), if_pos q]
    · rw [if_neg (fun z => q (lc_eq.1 z)), if_neg q]
  rw [if_neg c27, if_neg c27]
  by_cases c26 : c = -26
  · rw [if_pos c26, if_pos c26]
    by_cases q : y < x
    · rw [if_pos (lc_gt.2 q), if_pos q]
    · rw [if_neg (fun z => q (lc_gt.1 z)), if_neg q]
  rw [if_neg c26, if_neg c26]
  by_cases c25 : c = -25
  · rw [if_pos c25, if_pos c25]
    by_cases q : x < y
    · rw [if_pos (lc_lt.2 q), if_pos q]
    · rw [if_neg (fun z => q (lc_lt.1 z)), if_neg q]
  rw [if_neg c25, if_neg c25]
  by_cases c24 : c = -24
  · rw [if_pos c24, if_pos c24]
    by_cases q : y = 0
    · rw [if_pos (lc_eq.2 q), if_pos q]
    · rw [if_neg (fun z => q (lc_eq.1 z)), if_neg q, gd_cons q, gd_nil]
  rw [if_neg c24, if_neg c24]
  by_cases c23 : c = -23
  · rw [if_pos c23, if_pos c23]
    by_cases q : y = 0
    · rw [if_pos (lc_eq.2 q), if_pos q]
    · rw [if_neg (fun z => q (lc_eq.1 z)), if_neg q, gd_cons q, gd_nil]
  rw [if_neg c23, if_neg c23]
  by_cases c22 : c = -22
  · rw [if_pos c22, if_pos c22]
  rw [if_neg c22, if_neg c22]
  by_cases c21 : c = -21
  · rw [if_pos c21, if_pos c21]
  rw [if_neg c21, if_neg c21]
  by_cases c20 : c = -20
  · rw [if_pos c20, if_pos c20]
  rw [if_neg c20, if_neg c20]
theorem two_ok {c x y : Int} {h : MH} (c0 : -31 ≤ c) (c1 : c ≤ -20) : GX12_sumOfTwo (enc c) x y h = some (jn2 c x y, h) := by
  have hc : c = -31 ∨ c = -30 ∨ c = -29 ∨ c = -28 ∨ c = -27 ∨ c = -26 ∨ c = -25 ∨ c = -24 ∨ c = -23 ∨ c = -22 ∨ c = -21 ∨ c = -20 := by omega
  rcases hc with rfl | rfl | rfl | rfl | rfl | rfl | rfl | rfl | rfl | rfl | rfl | rfl
  · rw [show enc (-31) = 13 from by decide]
    unfold GX12_sumOfTwo jn2
    rw [if_neg (by decide), if_neg (by decide), if_neg (by decide), if_neg (by decide), if_neg (by decide), if_neg (by decide), if_neg (by decide), if_neg (by decide), if_neg (by decide), if_neg (by decide), if_neg (by decide), if_pos rfl]
    rw [if_neg (show ¬ ((-31 : Int) = -30) by decide), if_neg (show ¬ ((-31 : Int) = -29) by decide), if_neg (show ¬ ((-31 : Int) = -28) by decide), if_neg (show ¬ ((-31 : Int) = -27) by decide), if_neg (show ¬ ((-31 : Int) = -26) by decide), if_neg (show ¬ ((-31 : Int) = -25) by decide), if_neg (show ¬ ((-31 : Int) = -24) by decide), if_neg (show ¬ ((-31 : Int) = -23) by decide), if_neg (show ¬ ((-31 : Int) = -22) by decide), if_neg (show ¬ ((-31 : Int) = -21) by decide), if_neg (show ¬ ((-31 : Int) = -20) by decide)]
  · rw [show enc (-30) = 12 from by decide]
    unfold GX12_sumOfTwo jn2
    rw [if_neg (by decide), if_neg (by decide), if_neg (by decide), if_neg (by decide), if_neg (by decide), if_neg (by decide), if_neg (by decide), if_neg (by decide), if_neg (by decide), if_neg (by decide), if_pos rfl]
    rw [if_pos (show (-30 : Int) = -30 from rfl)]
  · rw [show enc (-29) = 10 from by decide]
    unfold GX12_sumOfTwo jn2
    rw [if_neg (by decide), if_neg (by decide), if_neg (by decide), if_neg (by decide), if_neg (by decide), if_neg (by decide), if_neg (by decide), if_neg (by decide), if_pos rfl]
    rw [if_neg (show ¬ ((-29 : Int) = -30) by decide), if_pos (show (-29 : Int) = -29 from rfl)]
    by_cases q : y < x
    · rw [if_pos (lc_gt.2 q), if_pos q]
    · rw [if_neg (fun z => q (lc_gt.1 z)), if_neg q]
  · rw [show enc (-28) = 9 from by decide]
    unfold GX12_sumOfTwo jn2
    rw [if_neg (by decide), if_neg (by decide), if_neg (by decide), if_neg (by decide), if_neg (by decide), if_neg (by decide), if_neg (by decide), if_pos rfl]
    rw [if_neg (show ¬ ((-28 : Int) = -30) by decide), if_neg (show ¬ ((-28 : Int) = -29) by decide), if_pos (show (-28 : Int) = -28 from rfl)]
    by_cases q : x < y
    · rw [if_pos (lc_lt.2 q), if_pos q]
    · rw [if_neg (fun z => q (lc_lt.1 z)), if_neg q]
  · rw [show enc (-27) = 8 from by decide]
    unfold GX12_sumOfTwo jn2
    rw [if_neg (by decide), if_neg (by decide), if_neg (by decide), if_neg (by decide), if_neg (by decide), if_neg (by decide), if_pos rfl]
    rw [if_neg (show ¬ ((-27 : Int) = -30) by decide), if_neg (show ¬ ((-27 : Int) = -29) by decide), if_neg (show ¬ ((-27 : Int) = -28) by decide), if_pos (show (-27 : Int) = -27 from rfl)]
    by_cases q : x = y
    · rw [if_pos (lc_eq.2 q), if_pos q]
    · rw [if_neg (fun z => q (lc_eq.1 z)), if_neg q]
  · rw [show enc (-26) = 7 from by decide]
    unfold GX12_sumOfTwo jn2
    rw [if_neg (by decide), if_neg (by decide), if_neg (by decide), if_neg (by decide), if_neg (by decide), if_pos rfl]
    rw [if_neg (show ¬ ((-26 : Int) = -30) by decide), if_neg (show ¬ ((-26 : Int) = -29) by decide), if_neg (show ¬ ((-26 : Int) = -28) by decide), if_neg (show ¬ ((-26 : Int) = -27) by decide), if_pos (show (-26 : Int) = -26 from rfl)]
    by_cases q : y < x
    · rw [if_pos (lc_gt.2 q), if_pos q]
    · rw [if_neg (fun z => q (lc_gt.1 z)), if_neg q]
  · rw [show enc (-25) = 6 from by decide]
    unfold GX12_sumOfTwo jn2
    rw [if_neg (by decide), if_neg (by decide), if_neg (by decide), if_neg (by decide), if_pos rfl]
    rw [if_neg (show ¬ ((-25 : Int) = -30) by decide), if_neg (show ¬ ((-25 : Int) = -29) by decide), if_neg (show ¬ ((-25 : Int) = -28) by decide), if_neg (show ¬ ((-25 : Int) = -27) by decide), if_neg (show ¬ ((-25 : Int) = -26) by decide), if_pos (show (-25 : Int) = -25 from rfl)]
    by_cases q : x < y
    · rw [if_pos (lc_lt.2 q), if_pos q]
    · rw [if_neg (fun z => q (lc_lt.1 z)), if_neg q]
  · rw [show enc (-24) = 14 from by decide]
    unfold GX12_sumOfTwo jn2
    rw [if_neg (by decide), if_neg (by decide), if_neg (by decide), if_neg (by decide), if_neg (by decide), if_neg (by decide), if_neg (by decide), if_neg (by decide), if_neg (by decide), if_neg (by decide), if_neg (by decide), if_neg (by decide), if_pos rfl]
    rw [if_neg (show ¬ ((-24 : Int) = -30) by decide), if_neg (show ¬ ((-24 : Int) = -29) by decide), if_neg (show ¬ ((-24 : Int) = -28) by decide), if_neg (show ¬ ((-24 : Int) = -27) by decide), if_neg (show ¬ ((-24 : Int) = -26) by decide), if_neg (show ¬ ((-24 : Int) = -25) by decide), if_pos (show (-24 : Int) = -24 from rfl)]
    by_cases q : y = 0
    · rw [if_pos (lc_eq.2 q), if_pos q]
    · rw [if_neg (fun z => q (lc_eq.1 z)), if_neg q, gd_cons q, gd_nil]
  · rw [show enc (-23) = 5 from by decide]
    unfold GX12_sumOfTwo jn2
    rw [if_neg (by decide), if_neg (by decide), if_neg (by decide), if_pos rfl]
    rw [if_neg (show ¬ ((-23 : Int) = -30) by decide), if_neg (show ¬ ((-23 : Int) = -29) by decide), if_neg (show ¬ ((-23 : Int) = -28) by decide), if_neg (show ¬ ((-23 : Int) = -27) by decide), if_neg (show ¬ ((-23 : Int) = -26) by decide), if_neg (show ¬ ((-23 : Int) = -25) by decide), if_neg (show ¬ ((-23 : Int) = -24) by decide), if_pos (show (-23 : Int) = -23 from rfl)]
    by_cases q : y = 0
    · rw [if_pos (lc_eq.2 q), if_pos q]
    · rw [if_neg (fun z => q (lc_eq.1 z)), if_neg q, gd_cons q, gd_nil]
  · rw [show enc (-22) = 4 from by decide]
    unfold GX12_sumOfTwo jn2
    rw [if_neg (by decide), if_neg (by decide), if_pos rfl]
    rw [if_neg (show ¬ ((-22 : Int) = -30) by decide), if_neg (show ¬ ((-22 : Int) = -29) by decide), if_neg (show ¬ ((-22 : Int) = -28) by decide), if_neg (show ¬ ((-22 : Int) = -27) by decide), if_neg (show ¬ ((-22 : Int) = -26) by decide), if_neg (show ¬ ((-22 : Int) = -25) by decide), if_neg (show ¬ ((-22 : Int) = -24) by decide), if_neg (show ¬ ((-22 : Int) = -23) by decide), if_pos (show (-22 : Int) = -22 from rfl)]
  · rw [show enc (-21) = 3 from by decide]
    unfold GX12_sumOfTwo jn2
    rw [if_neg (by decide), if_pos rfl]
    rw [if_neg (show ¬ ((-21 : Int) = -30) by decide), if_neg (show ¬ ((-21 : Int) = -29) by decide), if_neg (show ¬ ((-21 : Int) = -28) by decide), if_neg (show ¬ ((-21 : Int) = -27) by decide), if_neg (show ¬ ((-21 : Int) = -26) by decide), if_neg (show ¬ ((-21 : Int) = -25) by decide), if_neg (show ¬ ((-21 : Int) = -24) by decide), if_neg (show ¬ ((-21 : Int) = -23) by decide), if_neg (show ¬ ((-21 : Int) = -22) by decide), if_pos (show (-21 : Int) = -21 from rfl)]
  · rw [show enc (-20) = 2 from by decide]
    unfold GX12_sumOfTwo jn2
    rw [if_pos rfl]
    rw [if_neg (show ¬ ((-20 : Int) = -30) by decide), if_neg (show ¬ ((-20 : Int) = -29) by decide), if_neg (show ¬ ((-20 : Int) = -28) by decide), if_neg (show ¬ ((-20 : Int) = -27) by decide), if_neg (show ¬ ((-20 : Int) = -26) by decide), if_neg (show ¬ ((-20 : Int) = -25) by decide), if_neg (show ¬ ((-20 : Int) = -24) by decide), if_neg (show ¬ ((-20 : Int) = -23) by decide), if_neg (show ¬ ((-20 : Int) = -22) by decide), if_neg (show ¬ ((-20 : Int) = -21) by decide), if_pos (show (-20 : Int) = -20 from rfl)]
theorem land01 {x y : Int} (hx : x = 0 ∨ x = 1) (hy : y = 0 ∨ y = 1) : m_land x y = 0 ∨ m_land x y = 1 := by
  rcases hx with rfl | rfl <;> rcases hy with rfl | rfl <;> decide
theorem lor01 {x y : Int} (hx : x = 0 ∨ x = 1) (hy : y = 0 ∨ y = 1) : m_lor x y = 0 ∨ m_lor x y = 1 := by
  rcases hx with rfl | rfl <;> rcases hy with rfl | rfl <;> decide
/-- kinds and values on a stack -/
def TyS : List Bool → List Int → Prop
  | [], [] => True
  | b :: bs, v :: vs => (b = true → v = 0 ∨ v = 1) ∧ TyS bs vs
  | _, _ => False
def evs (w : Int → Int) (c : Int) (vs : List Int) : List Int := if -11 ≤ c then (if 0 ≤ c then c else w (-1 - c)) :: vs else match vs with
  | [] => []
  | y :: r => if c = -32 then (if y = 0 then 1 else 0) :: r else match r with
    | [] => []
    | x :: q => jn2 c x y :: q
def evr (g w : Int → Int) : Nat → Int → List Int → List Int
  | 0, _, vs => vs
  | m + 1, a, vs => evr g w m (a + 1) (evs w (g a) vs)
theorem jn2_t {c x y : Int} (c0 : -29 ≤ c) (c1 : c ≤ -25) : jn2 c x y = 0 ∨ jn2 c x y = 1 := by
  have hc : c = -29 ∨ c = -28 ∨ c = -27 ∨ c = -26 ∨ c = -25 := by omega
  unfold jn2
  rcases hc with rfl | rfl | rfl | rfl | rfl
  · rw [if_neg (by decide), if_pos rfl]
    split <;> simp
  · rw [if_neg (by decide), if_neg (by decide), if_pos rfl]
    split <;> simp
  · rw [if_neg (by decide), if_neg (by decide), if_neg (by decide), if_pos rfl]
    split <;> simp
  · rw [if_neg (by decide), if_neg (by decide), if_neg (by decide), if_neg (by decide), if_pos rfl]
    split <;> simp
  · rw [if_neg (by decide), if_neg (by decide), if_neg (by decide), if_neg (by decide), if_neg (by decide), if_pos rfl]
    split <;> simp
theorem jn2_l {c x y : Int} (c0 : -31 ≤ c) (c1 : c ≤ -30) (hx : x = 0 ∨ x = 1) (hy : y = 0 ∨ y = 1) : jn2 c x y = 0 ∨ jn2 c x y = 1 := by
  have hc : c = -31 ∨ c = -30 := by omega
  unfold jn2
  rcases hc with rfl | rfl
  · rw [if_neg (by decide), if_neg (by decide), if_neg (by decide), if_neg (by decide), if_neg (by decide), if_neg (by decide), if_neg (by decide), if_neg (by decide), if_neg (by decide), if_neg (by decide), if_neg (by decide)]
    exact lor01 hx hy
  · rw [if_pos rfl]
    exact land01 hx hy
theorem ty_cases {c : Int} {bs bs' : List Bool} {vs : List Int} (t : tys c bs = some bs') (T : TyS bs vs) : (-11 ≤ c ∧ bs' = false :: bs) ∨ (c = -32 ∧ ∃ y r q, vs = y :: r ∧ bs' = true :: q ∧ (y = 0 ∨ y = 1) ∧ TyS q r) ∨ (-31 ≤ c ∧ c ≤ -20 ∧ ∃ x y q b bq, vs = y :: x :: q ∧ bs' = b :: bq ∧ TyS bq q ∧ (b = true → jn2 c x y = 0 ∨ jn2 c x y = 1)) := by
  unfold tys at t
  by_cases c1 : -11 ≤ c
  · rw [if_pos c1] at t
    exact Or.inl ⟨c1, (Option.some.inj t).symm⟩
  rw [if_neg c1] at t
  cases bs with
  | nil => exact absurd t (by simp)
  | cons by' br =>
    cases vs with
    | nil => exact T.elim
    | cons vy vr =>
      obtain ⟨T1, T2⟩ := T
      dsimp only at t
      by_cases c2 : c = -32
      · rw [if_pos c2] at t
        cases by' with
        | false => exact absurd t (by simp)
        | true => exact Or.inr (Or.inl ⟨c2, vy, vr, br, rfl, (Option.some.inj t).symm, T1 rfl, T2⟩)
      rw [if_neg c2] at t
      cases br with
      | nil => exact absurd t (by simp)
      | cons bx bq =>
        cases vr with
        | nil => exact T2.elim
        | cons vx vq =>
          obtain ⟨T3, T4⟩ := T2
          dsimp only at t
          by_cases c3 : -24 ≤ c ∧ c ≤ -20
          · rw [if_pos c3] at t
            by_cases e : (bx || by') = true
            · rw [if_pos e] at t
              exact absurd t (by simp)
            · rw [if_neg e] at t
              exact Or.inr (Or.inr ⟨by omega, by omega, vx, vy, vq, false, bq, rfl, (Option.some.inj t).symm, T4, fun z => absurd z (by decide)⟩)
          rw [if_neg c3] at t
          by_cases c4 : -29 ≤ c ∧ c ≤ -25
          · rw [if_pos c4] at t
            by_cases e : (bx || by') = true
            · rw [if_pos e] at t
              exact absurd t (by simp)
            · rw [if_neg e] at t
              exact Or.inr (Or.inr ⟨by omega, by omega, vx, vy, vq, true, bq, rfl, (Option.some.inj t).symm, T4, fun _ => jn2_t c4.1 c4.2⟩)
          rw [if_neg c4] at t
          by_cases c5 : -31 ≤ c ∧ c ≤ -30
          · rw [if_pos c5] at t
            by_cases e : (bx && by') = true
            · rw [if_pos e] at t
              have e1 : bx = true ∧ by' = true := by simpa using e
              exact Or.inr (Or.inr ⟨by omega, by omega, vx, vy, vq, true, bq, rfl, (Option.some.inj t).symm, T4, fun _ => jn2_l c5.1 c5.2 (T3 e1.1) (T1 e1.2)⟩)
            · rw [if_neg e] at t
              exact absurd t (by simp)
          rw [if_neg c5] at t
          exact absurd t (by simp)
theorem evs_p {w : Int → Int} {c : Int} {vs : List Int} (h : -11 ≤ c) : evs w c vs = (if 0 ≤ c then c else w (-1 - c)) :: vs := if_pos h
theorem evs_n {w : Int → Int} {y : Int} {r : List Int} : evs w (-32) (y :: r) = (if y = 0 then 1 else 0) :: r := rfl
theorem evs_j {w : Int → Int} {c x y : Int} {q : List Int} (h : -31 ≤ c) (h' : c ≤ -20) : evs w c (y :: x :: q) = jn2 c x y :: q := by
  unfold evs
  rw [if_neg (by omega)]
  dsimp only
  rw [if_neg (by omega)]
/-- a stack in a row of cells -/
def Stk (g : Int → Int) : List Int → Prop
  | [] => True
  | y :: r => g (r.length : Int) = y ∧ Stk g r
theorem Stk.cg {g g' : Int → Int} : ∀ (vs : List Int), Stk g vs → (∀ i : Int, 0 ≤ i → i < (vs.length : Int) → g' i = g i) → Stk g' vs := by
  intro vs
  induction vs with
  | nil =>
    intro _ _
    trivial
  | cons y r ih =>
    intro H e
    have l : (((y :: r).length : Nat) : Int) = (r.length : Int) + 1 := by simp
    refine ⟨?_, ih H.2 (fun i i0 i1 => e i i0 (by omega))⟩
    rw [e _ (by omega) (by omega)]
    exact H.1
theorem npu_s {g : Int → Int} {n : Nat} : npu g (n + 1) = npu g n + (if -11 ≤ g (n : Int) then 1 else 0) := rfl
theorem npu_m {g : Int → Int} {a b : Nat} (h : a ≤ b) : npu g a ≤ npu g b := by
  induction b with
  | zero =>
    rw [show a = 0 by omega]
    exact Nat.le_refl _
  | succ b ih =>
    by_cases c : a = b + 1
    · rw [c]
      exact Nat.le_refl _
    · exact Nat.le_trans (ih (by omega)) (by rw [npu_s]; exact Nat.le_add_right _ _)
theorem tyr_s {g : Int → Int} {m : Nat} {a : Int} {bs bf : List Bool} (t : tyr g (m + 1) a bs = some bf) : ∃ bs', tys (g a) bs = some bs' ∧ tyr g m (a + 1) bs' = some bf := by
  unfold tyr at t
  split at t
  · exact absurd t (by simp)
  · rename_i bs' e
    exact ⟨bs', e, t⟩
theorem evr_ty {g w : Int → Int} : ∀ (m : Nat) (a : Int) (bs bf : List Bool) (vs : List Int), tyr g m a bs = some bf → TyS bs vs → TyS bf (evr g w m a vs) := by
  intro m
  induction m with
  | zero =>
    intro a bs bf vs t T
    have : bs = bf := Option.some.inj t
    rw [← this]
    exact T
  | succ m ih =>
    intro a bs bf vs t T
    obtain ⟨bs', t1, t2⟩ := tyr_s t
    refine ih (a + 1) bs' bf (evs w (g a) vs) t2 ?_
    rcases ty_cases t1 T with ⟨c1, rfl⟩ | ⟨c1, y, r, q, rfl, rfl, hy, Tq⟩ | ⟨c1, c2, x, y, q, b, bq, rfl, rfl, Tq, hj⟩
    · rw [evs_p c1]
      exact ⟨fun z => absurd z (by decide), T⟩
    · rw [c1, evs_n]
      refine ⟨fun _ => ?_, Tq⟩
      split <;> simp
    · rw [evs_j c1 c2]
      exact ⟨hj, Tq⟩
/-- the class runs steps -/
theorem run_L {r b n : Int} {g w : Int → Int} {bf : List Bool} {K : Int → MH → Option (Int × MH)} (b1 : b ≤ n) (n1 : n ≤ 400) (gb : ∀ i, 0 ≤ i → i < n → -32 ≤ g i ∧ g i ≤ 99999) (gp : npu g n.toNat ≤ 60) (r0 : 359 ≤ r) : ∀ (m f : Nat) (a : Int) (h : MH) (bs : List Bool) (vs : List Int), m < f → a + m = b → 0 ≤ a → m_rd h (r + 2) = g → m_ln h (r + 2) = n → m_rd h 322 = w → h.2.1 322 = (2, 11) → tyr g m a bs = some bf → TyS bs vs → Stk (m_rd h (r + 1)) vs → vs.length ≤ npu g a.toNat → ∃ h', GX5_run_L6 r b 322 K f vs.length a h = K (evr g w m a vs).length h' ∧ Fr (fun x _ => x = r + 1) h h' ∧ Stk (m_rd h' (r + 1)) (evr g w m a vs) := by
  intro m
  induction m with
  | zero =>
    intro f a h bs vs hf ha a0 hg hn hw hk t T Sk len
    obtain ⟨q, rfl⟩ : ∃ q, f = q + 1 := ⟨f - 1, by omega⟩
    conv => enter [1, h', 1, 1]; unfold GX5_run_L6
    rw [if_neg (by omega)]
    exact ⟨h, rfl, Fr.rf, Sk⟩
  | succ m ih =>
    intro f a h bs vs hf ha a0 hg hn hw hk t T Sk len
    obtain ⟨q, rfl⟩ : ∃ q, f = q + 1 := ⟨f - 1, by omega⟩
    obtain ⟨bs', t1, t2⟩ := tyr_s t
    obtain ⟨g0, g1⟩ := gb a a0 (by omega)
    have np := npu_m (g := g) (show a.toNat + 1 ≤ n.toNat by omega)
    have ns := npu_s (g := g) (n := a.toNat)
    rw [show ((a.toNat : Nat) : Int) = a by omega] at ns
    have nxt : ∀ (h2 : MH) (vs' : List Int) (x : Int), Fr (fun y _ => y = r + 1) h h2 → x = (vs'.length : Int) → vs' = evs w (g a) vs → Stk (m_rd h2 (r + 1)) vs' → TyS bs' vs' → vs'.length ≤ npu g (a.toNat + 1) → ∃ h', GX5_run_L6 r b 322 K q x (a + 1) h2 = K (evr g w (m + 1) a vs).length h' ∧ Fr (fun x _ => x = r + 1) h h' ∧ Stk (m_rd h' (r + 1)) (evr g w (m + 1) a vs) := by
      intro h2 vs' x F2 hx hv Sk2 T2 len2
      obtain ⟨h', e, F', Sk'⟩ := ih q (a + 1) h2 bs' vs' (by omega) (by omega) (by omega) (by rw [← hg]; exact funext fun j => F2.rd (by omega)) (by unfold m_ln at *; rw [F2.2.1]; exact hn) (by rw [← hw]; exact funext fun j => F2.rd (by omega)) (by rw [F2.2.1]; exact hk) t2 T2 Sk2 (by rw [show (a + 1).toNat = a.toNat + 1 by omega]; exact len2)
      rw [hv] at e Sk'
      refine ⟨h', ?_, F2.tr F', Sk'⟩
      rw [hx, hv]
      exact e
    conv => enter [1, h', 1, 1]; unfold GX5_run_L6
    rw [if_pos (by omega), hn, if_pos (by omega), gd_ib a0 (by omega), gd_nil, hg, w32_id (x := a + 1) (by omega) (by omega)]
    rcases ty_cases t1 T with ⟨c1, rfl⟩ | ⟨c1, y, r', bq, rfl, rfl, hy, Tq⟩ | ⟨c1, c2, x, y, vq, bb, bq, rfl, rfl, Tq, hj⟩
    · rw [if_pos c1] at ns
      have l : ∀ v : Int, (((v :: vs).length : Nat) : Int) = (vs.length : Int) + 1 := fun v => by simp
      have ln : ∀ v : Int, (v :: vs).length = vs.length + 1 := fun v => rfl
      rw [if_neg (by omega), if_pos (by omega)]
      have fin : ∀ v : Int, v = (if 0 ≤ g a then g a else w (-1 - g a)) → ∃ h', GX5_run_L6 r b 322 K q (m_w32 ((vs.length : Int) + 1)) (a + 1) (m_wr h (r + 1) vs.length v) = K (evr g w (m + 1) a vs).length h' ∧ Fr (fun x _ => x = r + 1) h h' ∧ Stk (m_rd h' (r + 1)) (evr g w (m + 1) a vs) := by
        intro v hv
        refine nxt (m_wr h (r + 1) vs.length v) (v :: vs) _ (Fr.wr Fr.rf rfl) (by rw [w32_id (by omega) (by omega), l]) (by rw [evs_p c1, hv]) ⟨rd_eq rfl rfl, ?_⟩ ⟨fun z => absurd z (by decide), T⟩ (by rw [ln]; omega)
        exact Sk.cg _ (fun i i0 i1 => rd_ne (by omega))
      by_cases c2 : g a < 0
      · rw [if_pos c2, w32_id (x := -1 - g a) (by omega) (by omega), gd_cons ⟨by decide, by unfold m_kd; rw [hk], by omega, by unfold m_ln; rw [hk]; show -1 - g a < 11; omega⟩, gd_nil, gd_ib (by omega) (by omega), gd_nil, hw]
        exact fin _ (by rw [if_neg (by omega)])
      · rw [if_neg c2, gd_ib (by omega) (by omega), gd_nil]
        exact fin _ (by rw [if_pos (by omega)])
    · have l : (((y :: r').length : Nat) : Int) = (r'.length : Int) + 1 := by simp
      have ln : ∀ v : Int, (v :: r').length = r'.length + 1 := fun v => rfl
      have len60 : (y :: r').length ≤ 60 := by omega
      rw [if_pos (by omega), if_pos c1, l, if_neg (by omega), w32_id (x := (r'.length : Int) + 1 - 1) (by omega) (by omega), show (r'.length : Int) + 1 - 1 = (r'.length : Int) by omega, gd_ib (by omega) (by omega), gd_nil, Sk.1]
      have fin : ∀ v : Int, v = (if y = 0 then 1 else 0) → ∃ h', GX5_run_L6 r b 322 K q ((r'.length : Int) + 1) (a + 1) (m_wr h (r + 1) r'.length v) = K (evr g w (m + 1) a (y :: r')).length h' ∧ Fr (fun x _ => x = r + 1) h h' ∧ Stk (m_rd h' (r + 1)) (evr g w (m + 1) a (y :: r')) := by
        intro v hv
        refine nxt (m_wr h (r + 1) r'.length v) (v :: r') _ (Fr.wr Fr.rf rfl) (by simp) (by rw [c1, evs_n, hv]) ⟨rd_eq rfl rfl, ?_⟩ ⟨fun _ => ?_, Tq⟩ (by rw [ln]; rw [ln] at len; omega)
        · exact Sk.2.cg _ (fun i i0 i1 => rd_ne (by omega))
        · rw [hv]
          split <;> simp
      by_cases c2 : y = 0
      · rw [if_pos (lc_eq.2 c2), gd_ib (by omega) (by omega), gd_nil]
        exact fin _ (by rw [if_pos c2])
      · rw [if_neg (fun z => c2 (lc_eq.1 z)), gd_ib (by omega) (by omega), gd_nil]
        exact fin _ (by rw [if_neg c2])
    · have l : (((y :: x :: vq).length : Nat) : Int) = (vq.length : Int) + 2 := by
        simp
        omega
      have ln : (y :: x :: vq).length = vq.length + 2 := rfl
      have ln2 : ∀ v : Int, (v :: vq).length = vq.length + 1 := fun v => rfl
      have len60 : (y :: x :: vq).length ≤ 60 := by omega
      have sky : m_rd h (r + 1) ((vq.length : Int) + 1) = y := by
        have := Sk.1
        rw [show (((x :: vq).length : Nat) : Int) = (vq.length : Int) + 1 by simp] at this
        exact this
      rw [if_pos (by omega), if_neg (by omega), l, if_neg (by omega), w32_id (x := (vq.length : Int) + 2 + (-1)) (by omega) (by omega), show (vq.length : Int) + 2 + (-1) = (vq.length : Int) + 1 by omega, w32_id (x := (vq.length : Int) + 1 - 1) (by omega) (by omega), show (vq.length : Int) + 1 - 1 = (vq.length : Int) by omega, gd_ib (by omega) (by omega), gd_nil, gd_ib (by omega) (by omega), gd_nil, sky, Sk.2.1, join_ok, bd_some, gd_ib (by omega) (by omega), gd_nil]
      refine nxt (m_wr h (r + 1) vq.length (jn2 (g a) x y)) (jn2 (g a) x y :: vq) _ (Fr.wr Fr.rf rfl) (by simp) (by rw [evs_j c1 c2]) ⟨rd_eq rfl rfl, ?_⟩ ⟨hj, Tq⟩ (by rw [ln2]; rw [ln] at len; omega)
      exact Sk.2.2.cg _ (fun i i0 i1 => rd_ne (by omega))
def vl (g w : Int → Int) (a b : Int) : Int := (evr g w (b - a).toNat a []).headD 0
theorem ty1 {b : Bool} {vs : List Int} (T : TyS [b] vs) : ∃ v, vs = [v] ∧ (b = true → v = 0 ∨ v = 1) := by
  cases vs with
  | nil => exact T.elim
  | cons v r =>
    cases r with
    | nil => exact ⟨v, rfl, T.1⟩
    | cons x q => exact T.2.elim
theorem run_ok {r a b n : Int} {g w : Int → Int} {bb : Bool} {h : MH} (a0 : 0 ≤ a) (ab : a ≤ b) (b1 : b ≤ n) (n1 : n ≤ 400) (gb : ∀ i, 0 ≤ i → i < n → -32 ≤ g i ∧ g i ≤ 99999) (gp : npu g n.toNat ≤ 60) (r0 : 359 ≤ r) (hg : m_rd h (r + 2) = g) (hn : m_ln h (r + 2) = n) (hw : m_rd h 322 = w) (hk : h.2.1 322 = (2, 11)) (t : tyr g (b - a).toNat a [] = some [bb]) : ∃ h', GX5_run r a b 322 h = some (vl g w a b, h') ∧ Fr (fun x _ => x = r + 1) h h' := by
  unfold GX5_run
  obtain ⟨h', e, F, Sk⟩ := run_L (K := fun w1 h2 => if 0 < w1 then some (m_rd h2 (r + 1) 0, h2) else some (0, h2)) b1 n1 gb gp r0 (b - a).toNat FU a h [] [] (by unfold FU; omega) (by omega) a0 hg hn hw hk t trivial trivial (Nat.zero_le _)
  obtain ⟨v, ev, _⟩ := ty1 (evr_ty (w := w) _ _ _ _ [] t trivial)
  unfold vl
  rw [ev] at e Sk ⊢
  refine ⟨h', ?_, F⟩
  refine Eq.trans e ?_
  show (if (0 : Int) < ((1 : Nat) : Int) then some (m_rd h' (r + 1) 0, h') else some (0, h')) = some (v, h')
  rw [if_pos (by decide)]
  have := Sk.1
  rw [show m_rd h' (r + 1) 0 = v from this]
/-- the reference's stack -/
theorem pushM {h : MH} {v : Int} {vs : List Int} (t : m_rd h 334 18 = vs.length) (l : vs.length < 64) (Sk : Stk (m_rd h 342) vs) : ∃ h', GX12_push v h = some h' ∧ Fr (fun a j => a = 342 ∨ (a = 334 ∧ j = 18)) h h' ∧ m_rd h' 334 18 = (vs.length : Int) + 1 ∧ Stk (m_rd h' 342) (v :: vs) := by
  unfold GX12_push
  rw [gd_ib (by omega) (by omega), gd_nil, rd_ne (by omega), t, w32_id (by omega) (by omega)]
  refine ⟨_, rfl, (Fr.rf.wr (Or.inl rfl)).wr (Or.inr ⟨rfl, rfl⟩), rd_eq rfl rfl, ?_, ?_⟩
  · simp (disch := omega) only [w32_id, rd_eq, rd_ne, cp_in, cp_out, lc_lt, lc_gt, lc_eq]
  · refine Sk.cg _ (fun i i0 i1 => ?_)
    simp (disch := omega) only [w32_id, rd_eq, rd_ne, cp_in, cp_out, lc_lt, lc_gt, lc_eq]
theorem popM {h : MH} {y : Int} {vs : List Int} (t : m_rd h 334 18 = (vs.length : Int) + 1) (l : vs.length < 64) (Sk : Stk (m_rd h 342) (y :: vs)) : ∃ h', GX12_pop h = some (y, h') ∧ Fr (fun a j => a = 342 ∨ (a = 334 ∧ j = 18)) h h' ∧ m_rd h' 334 18 = vs.length ∧ Stk (m_rd h' 342) vs := by
  unfold GX12_pop
  rw [t, w32_id (by omega) (by omega), show (vs.length : Int) + 1 - 1 = (vs.length : Int) by omega, rd_eq rfl rfl, gd_ib (by omega) (by omega), gd_nil, rd_ne (b := 342) (by omega), Sk.1]
  refine ⟨_, rfl, Fr.rf.wr (Or.inr ⟨rfl, rfl⟩), rd_eq rfl rfl, ?_⟩
  refine Sk.2.cg _ (fun i i0 i1 => ?_)
  simp (disch := omega) only [w32_id, rd_eq, rd_ne, cp_in, cp_out, lc_lt, lc_gt, lc_eq]
theorem enc_p {c : Int} (c0 : 0 ≤ c) : enc c = 16 * c := if_pos c0
theorem enc_w {c : Int} (c0 : c < 0) (c1 : -11 ≤ c) : enc c = 1 + 16 * (-1 - c) := by
  unfold enc
  rw [if_neg (by omega), if_pos c1]
theorem enc_j {c : Int} (c0 : -31 ≤ c) (c1 : c ≤ -20) : 2 ≤ enc c ∧ enc c ≤ 14 ∧ enc c ≠ 11 := by
  have hc : c = -31 ∨ c = -30 ∨ c = -29 ∨ c = -28 ∨ c = -27 ∨ c = -26 ∨ c = -25 ∨ c = -24 ∨ c = -23 ∨ c = -22 ∨ c = -21 ∨ c = -20 := by omega
  rcases hc with rfl | rfl | rfl | rfl | rfl | rfl | rfl | rfl | rfl | rfl | rfl | rfl <;> decide
theorem reck_L {k b n : Int} {g w : Int → Int} {bf : List Bool} {K : MH → Option (Int × MH)} (k0 : 0 ≤ k) (k6 : k < 6) (b1 : b ≤ n) (n1 : n ≤ 400) (gb : ∀ i, 0 ≤ i → i < n → -32 ≤ g i ∧ g i ≤ 99999) (gp : npu g n.toNat ≤ 60) : ∀ (m f : Nat) (a : Int) (h : MH) (bs : List Bool) (vs : List Int), m < f → a + m = b → 0 ≤ a → (∀ i, 0 ≤ i → i < n → m_rd h 336 (400 * k + i) = enc (g i)) → m_rd h 343 = w → m_rd h 334 18 = vs.length → tyr g m a bs = some bf → TyS bs vs → Stk (m_rd h 342) vs → vs.length ≤ npu g a.toNat → ∃ h', GX12_reckons_L8 k b K f a h = K h' ∧ Fr (fun a j => a = 342 ∨ (a = 334 ∧ j = 18)) h h' ∧ m_rd h' 334 18 = (evr g w m a vs).length ∧ Stk (m_rd h' 342) (evr g w m a vs) := by
  intro m
  induction m with
  | zero =>
    intro f a h bs vs hf ha a0 hg hw ht t T Sk len
    obtain ⟨q, rfl⟩ : ∃ q, f = q + 1 := ⟨f - 1, by omega⟩
    conv => enter [1, h', 1, 1]; unfold GX12_reckons_L8
    rw [if_neg (by omega)]
    exact ⟨h, rfl, Fr.rf, ht, Sk⟩
  | succ m ih =>
    intro f a h bs vs hf ha a0 hg hw ht t T Sk len
    obtain ⟨q, rfl⟩ : ∃ q, f = q + 1 := ⟨f - 1, by omega⟩
    obtain ⟨bs', t1, t2⟩ := tyr_s t
    obtain ⟨g0, g1⟩ := gb a a0 (by omega)
    have np := npu_m (g := g) (show a.toNat + 1 ≤ n.toNat by omega)
    have ns := npu_s (g := g) (n := a.toNat)
    rw [show ((a.toNat : Nat) : Int) = a by omega] at ns
    have nxt : ∀ (h2 : MH) (vs' : List Int), Fr (fun a j => a = 342 ∨ (a = 334 ∧ j = 18)) h h2 → m_rd h2 334 18 = (vs'.length : Int) → vs' = evs w (g a) vs → Stk (m_rd h2 342) vs' → TyS bs' vs' → vs'.length ≤ npu g (a.toNat + 1) → ∃ h', GX12_reckons_L8 k b K q (a + 1) h2 = K h' ∧ Fr (fun a j => a = 342 ∨ (a = 334 ∧ j = 18)) h h' ∧ m_rd h' 334 18 = (evr g w (m + 1) a vs).length ∧ Stk (m_rd h' 342) (evr g w (m + 1) a vs) := by
      intro h2 vs' F2 hx hv Sk2 T2 len2
      obtain ⟨h', e, F', tp, Sk'⟩ := ih q (a + 1) h2 bs' vs' (by omega) (by omega) (by omega) (fun i i0 i1 => by rw [F2.rd (by omega)]; exact hg i i0 i1) (by rw [← hw]; exact funext fun j => F2.rd (by omega)) hx t2 T2 Sk2 (by rw [show (a + 1).toNat = a.toNat + 1 by omega]; exact len2)
      rw [hv] at tp Sk'
      exact ⟨h', e, F2.tr F', tp, Sk'⟩
    conv => enter [1, h', 1, 1]; unfold GX12_reckons_L8
    rw [if_pos (by omega), w32_id (x := 400 * k) (by omega) (by omega), w32_id (x := 400 * k + a) (by omega) (by omega), gd_ib (by omega) (by omega), gd_nil, gd_ib (by omega) (by omega), gd_nil, hg a a0 (by omega), w32_id (x := a + 1) (by omega) (by omega)]
    rcases ty_cases t1 T with ⟨c1, rfl⟩ | ⟨c1, y, r', bq, rfl, rfl, hy, Tq⟩ | ⟨c1, c2, x, y, vq, bb, bq, rfl, rfl, Tq, hj⟩
    · rw [if_pos c1] at ns
      have l : ∀ v : Int, (((v :: vs).length : Nat) : Int) = (vs.length : Int) + 1 := fun v => by simp
      have ln : ∀ v : Int, (v :: vs).length = vs.length + 1 := fun v => rfl
      by_cases c2 : 0 ≤ g a
      · rw [enc_p c2, band15 (by omega) (by omega), shr_4 (by omega) (by omega), if_pos (by omega), show 16 * g a / 16 = g a by omega]
        obtain ⟨h2, e2, F2, tp2, Sk2⟩ := pushM (v := g a) ht (by omega) Sk
        rw [e2, bv_some]
        exact nxt h2 (g a :: vs) F2 (by rw [l]; exact tp2) (by rw [evs_p c1, if_pos c2]) Sk2 ⟨fun z => absurd z (by decide), T⟩ (by rw [ln]; omega)
      · rw [enc_w (by omega) c1, band15 (by omega) (by omega), shr_4 (by omega) (by omega), if_neg (by omega), if_pos (by omega), show (1 + 16 * (-1 - g a)) / 16 = -1 - g a by omega, gd_ib (by omega) (by omega), gd_nil, hw]
        obtain ⟨h2, e2, F2, tp2, Sk2⟩ := pushM (v := w (-1 - g a)) ht (by omega) Sk
        rw [e2, bv_some]
        exact nxt h2 (w (-1 - g a) :: vs) F2 (by rw [l]; exact tp2) (by rw [evs_p c1, if_neg c2]) Sk2 ⟨fun z => absurd z (by decide), T⟩ (by rw [ln]; omega)
    · have l : ∀ v : Int, (((v :: r').length : Nat) : Int) = (r'.length : Int) + 1 := fun v => by simp
      have ln : ∀ v : Int, (v :: r').length = r'.length + 1 := fun v => rfl
      have len60 : (y :: r').length ≤ 60 := by omega
      rw [ln] at len60
      rw [l] at ht
      rw [c1, show enc (-32) = 11 from by decide, band15 (by decide) (by decide), if_neg (by decide), if_neg (by decide), if_pos (by decide)]
      obtain ⟨h1, e1, F1, tp1, Sk1⟩ := popM ht (by omega) Sk
      obtain ⟨h2, e2, F2, tp2, Sk2⟩ := pushM (v := m_w64 (1 - y)) tp1 (by omega) Sk1
      have ey : m_w64 (1 - y) = if y = 0 then 1 else 0 := by
        rcases hy with rfl | rfl <;> decide
      rw [e1, bd_some, e2, bv_some]
      rw [ey] at Sk2
      refine nxt h2 _ (F1.tr F2) (by rw [l]; exact tp2) (by rw [c1, evs_n]) Sk2 ⟨fun _ => ?_, Tq⟩ (by rw [ln]; rw [ln] at len; omega)
      split <;> simp
    · have l2 : ∀ v : Int, (((v :: vq).length : Nat) : Int) = (vq.length : Int) + 1 := fun v => by simp
      have l : (((y :: x :: vq).length : Nat) : Int) = ((x :: vq).length : Int) + 1 := by simp
      have ln : (y :: x :: vq).length = vq.length + 2 := rfl
      have ln2 : ∀ v : Int, (v :: vq).length = vq.length + 1 := fun v => rfl
      have len60 : (y :: x :: vq).length ≤ 60 := by omega
      rw [ln] at len60
      rw [l] at ht
      have ej := enc_j c1 c2
      obtain ⟨h1, e1, F1, tp1, Sk1⟩ := popM ht (by rw [ln2]; omega) Sk
      rw [l2] at tp1
      obtain ⟨h3, e3, F3, tp3, Sk3⟩ := popM tp1 (by omega) Sk1
      obtain ⟨h2, e2, F2, tp2, Sk2⟩ := pushM (v := jn2 (g a) x y) tp3 (by omega) Sk3
      rw [band15 (by omega) (by omega), show enc (g a) % 16 = enc (g a) by omega, if_neg (by omega), if_neg (by omega), if_neg (by omega), e1, bd_some, e3, bd_some, two_ok c1 c2, bd_some, e2, bv_some]
      exact nxt h2 _ ((F1.tr F3).tr F2) (by rw [l2]; exact tp2) (by rw [evs_j c1 c2]) Sk2 ⟨hj, Tq⟩ (by rw [ln2]; rw [ln] at len; omega)
theorem reckons_ok {k a b n : Int} {g w : Int → Int} {bb : Bool} {h : MH} (k0 : 0 ≤ k) (k6 : k < 6) (a0 : 0 ≤ a) (ab : a ≤ b) (b1 : b ≤ n) (n1 : n ≤ 400) (gb : ∀ i, 0 ≤ i → i < n → -32 ≤ g i ∧ g i ≤ 99999) (gp : npu g n.toNat ≤ 60) (hg : ∀ i, 0 ≤ i → i < n → m_rd h 336 (400 * k + i) = enc (g i)) (hw : m_rd h 343 = w) (t : tyr g (b - a).toNat a [] = some [bb]) : (∃ h', GX12_reckons k a b h = some (vl g w a b, h') ∧ Fr (fun a j => a = 342 ∨ (a = 334 ∧ j = 18)) h h') ∧ (bb = true → vl g w a b = 0 ∨ vl g w a b = 1) := by
  unfold GX12_reckons
  obtain ⟨h', e, F, tp, Sk⟩ := reck_L (w := w) (K := fun h1 => bd (GX12_pop h1) (fun x3 h2 => some (x3, h2))) k0 k6 b1 n1 gb gp (b - a).toNat FU a (m_wr h 334 18 0) [] [] (by unfold FU; omega) (by omega) a0 (fun i i0 i1 => by rw [rd_ne (by omega)]; exact hg i i0 i1) (by rw [rd_fo (by decide)]; exact hw) (rd_eq rfl rfl) t trivial trivial (Nat.zero_le _)
  obtain ⟨v, ev, tv⟩ := ty1 (evr_ty (w := w) _ _ _ _ [] t trivial)
  unfold vl
  rw [ev] at tp Sk ⊢
  obtain ⟨h2, e2, F2, _, _⟩ := popM (y := v) (vs := []) tp (by decide) Sk
  rw [e2, bd_some] at e
  exact ⟨⟨h2, e, ((Fr.wr Fr.rf (Or.inr ⟨rfl, rfl⟩)).tr F).tr F2⟩, tv⟩
