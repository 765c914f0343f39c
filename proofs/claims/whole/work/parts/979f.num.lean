/-! numbers on the tape -/
def vF (f : Int → Int) : Nat → Int
  | 0 => 0
  | m + 1 => vF f m * 10 + (f (m : Int) - 48)
theorem vF_b {f : Int → Int} : ∀ m : Nat, m ≤ 5 → (∀ i : Int, 0 ≤ i → i < m → 48 ≤ f i ∧ f i ≤ 57) → 0 ≤ vF f m ∧ vF f m < 10 ^ m ∧ vF f m ≤ 99999 := by
  intro m
  induction m with
  | zero =>
    intro _ _
    exact ⟨Int.le_refl _, by show (0 : Int) < 10 ^ 0; decide, by show (0 : Int) ≤ 99999; decide⟩
  | succ m ih =>
    intro hm h
    have i := ih (by omega) (fun j j0 j1 => h j j0 (by omega))
    have g := h m (by omega) (by omega)
    have e : vF f (m + 1) = vF f m * 10 + (f (m : Int) - 48) := rfl
    have p : (10 : Int) ^ (m + 1) = 10 ^ m * 10 := Int.pow_succ ..
    have q : (10 : Int) ^ (m + 1) ≤ 100000 := by
      have hm' : m = 0 ∨ m = 1 ∨ m = 2 ∨ m = 3 ∨ m = 4 := by omega
      rcases hm' with rfl | rfl | rfl | rfl | rfl <;> decide
    omega
def m5 (x : Int) : Nat := if x < 5 then x.toNat else 5
section
variable (B : Int → Int) (n : Int)
def nvl (p : Int) : Int := vF (fun i => B (sk B n p + i)) (m5 (run isD B n (sk B n p)))
def npo (p : Int) : Int := sk B n p + run isD B n (sk B n p)
def nfl (p : Int) : Int := 1 + 8 * sk B n p + (if run isD B n (sk B n p) = 0 then 0 else 1)
def nok (lo hi p : Int) : Prop := 1 ≤ run isD B n (sk B n p) ∧ run isD B n (sk B n p) ≤ 5 ∧ lo ≤ nvl B n p ∧ nvl B n p ≤ hi
end
theorem npo_b {B : Int → Int} {n p : Int} (n1 : n ≤ 400) (p0 : 0 ≤ p) (p1 : p ≤ n) : p ≤ npo B n p ∧ npo B n p ≤ n ∧ 0 < nfl B n p := by
  have s := sk_b (B := B) n1 p0 p1
  have r := run_p (B := B) (q := sk B n p) isD_n n1 (by omega)
  have r2 := r.2.1 s.2
  unfold npo nfl
  split <;> omega
theorem nvl_b {B : Int → Int} {n p : Int} (n1 : n ≤ 400) (p0 : 0 ≤ p) (p1 : p ≤ n) : 0 ≤ nvl B n p ∧ nvl B n p ≤ 99999 := by
  have s := sk_b (B := B) n1 p0 p1
  have r := run_p (B := B) (q := sk B n p) isD_n n1 (by omega)
  have r2 := r.2.1 s.2
  have m : m5 (run isD B n (sk B n p)) ≤ 5 ∧ (m5 (run isD B n (sk B n p)) : Int) ≤ run isD B n (sk B n p) := by
    unfold m5
    split <;> omega
  have v := vF_b (f := fun i => B (sk B n p + i)) (m5 (run isD B n (sk B n p))) m.1 (fun i i0 i1 => by
    have := r.2.2.1 i i0 (by omega)
    rw [bya_i (by omega) (by omega)] at this
    exact of_decide_eq_true this)
  exact ⟨v.1, v.2.2⟩
def F123 (a j : Int) : Prop := a = 1 ∧ (j = 2 ∨ j = 3)
theorem isDigitC {x : Int} {h : MH} : GX9_isDigit x h = some (if isD x = true then 1 else 0, h) := by
  unfold GX9_isDigit
  by_cases d : 48 ≤ x ∧ x ≤ 57
  · rw [if_neg (by omega), if_neg (by omega), if_pos (show isD x = true from decide_eq_true d)]
  · rw [if_neg (show ¬ isD x = true from fun z => d (of_decide_eq_true z))]
    by_cases d2 : x < 48
    · rw [if_pos d2]
    · rw [if_neg d2, if_pos (by omega)]
theorem failC {a k : Int} {h : MH} (a0 : 0 ≤ a) (a1 : a ≤ 400) (k0 : 0 ≤ k) (k1 : k ≤ 4) (z : m_rd h 1 3 = 0) : GX9_fail a k h = some (0, m_wr h 1 3 (1 + 8 * a + k)) := by
  unfold GX9_fail
  rw [if_pos z, w32_id (x := 8 * a) (by omega) (by omega), w32_id (x := 1 + 8 * a) (by omega) (by omega), w32_id (by omega) (by omega)]
theorem tnC_L {B : Int → Int} {n q u1 u2 : Int} {K : Int → MH → Option (Int × MH)} (b : BB B n) (q0 : 0 ≤ q) (q1 : q ≤ n) : ∀ (m f i : Nat) (h : MH), m < f → (i : Int) + m = run isD B n q → TpC h B n → m_rd h 1 2 = q + i → ∃ h', GX9_takeNumber_L33 u1 u2 q K f (vF (fun i => B (q + i)) (m5 i)) (q + i) h = K (vF (fun i => B (q + i)) (m5 (run isD B n q))) h' ∧ Fr F12 h h' ∧ m_rd h' 1 2 = q + run isD B n q := by
  have b1 := b.2.1
  obtain ⟨r1, r2, r3, r4⟩ := run_p (B := B) (q := q) isD_n b.2.1 q0
  have r2' := r2 q1
  intro m
  induction m with
  | zero =>
    intro f i h hf hi T ha
    obtain ⟨g, rfl⟩ : ∃ g, f = g + 1 := ⟨f - 1, by omega⟩
    conv => enter [1, h', 1, 1]; unfold GX9_takeNumber_L33
    have ei : (i : Int) = run isD B n q := by omega
    rw [T.1, ei]
    refine ⟨h, ?_, Fr.rf, by omega⟩
    by_cases c : q + run isD B n q < n
    · rw [bya_i (by omega) c] at r4
      rw [if_pos c, gd_ib (by omega) (by omega), gd_nil, T.2 _ (by omega) c, isDigitC, bd_some, r4, if_pos (by decide)]
    · rw [if_neg c]
  | succ m ih =>
    intro f i h hf hi T ha
    obtain ⟨g, rfl⟩ : ∃ g, f = g + 1 := ⟨f - 1, by omega⟩
    have lt := r3 i (by omega) (by omega)
    have vn : q + i < n := by omega
    rw [bya_i (by omega) vn] at lt
    have lt2 : 48 ≤ B (q + i) ∧ B (q + i) ≤ 57 := of_decide_eq_true lt
    conv => enter [1, h', 1, 1]; unfold GX9_takeNumber_L33
    rw [T.1, if_pos vn, gd_ib (by omega) (by omega), gd_nil, T.2 _ (by omega) vn, isDigitC, bd_some, lt, if_pos rfl, if_neg (by decide), w32_id (x := q + 5) (by omega) (by omega), w32_id (x := q + i + 1) (by omega) (by omega)]
    have Fv : Fr F12 h (m_wr h 1 2 (q + i + 1)) := Fr.wr Fr.rf ⟨rfl, rfl⟩
    obtain ⟨h', e', F', a'⟩ := ih g (i + 1) (m_wr h 1 2 (q + i + 1)) (by omega) (by omega) (T.fr Fv (fun a j z => by unfold F12 at z; omega)) (by rw [rd_eq rfl rfl]; omega)
    rw [show q + ((i + 1 : Nat) : Int) = q + i + 1 by omega] at e'
    by_cases c : q + (i : Int) < q + 5
    · have mi : m5 (i : Int) = i := by
        unfold m5
        rw [if_pos (by omega)]
        omega
      have mj : m5 ((i + 1 : Nat) : Int) = i + 1 := by
        unfold m5
        split <;> omega
      have v := vF_b (f := fun i => B (q + i)) i (by omega) (fun j j0 j1 => by
        have := r3 j j0 (by omega)
        rw [bya_i (by omega) (by omega)] at this
        exact of_decide_eq_true this)
      have e1 : vF (fun i => B (q + i)) (i + 1) = vF (fun i => B (q + i)) i * 10 + (B (q + i) - 48) := rfl
      rw [mj, e1] at e'
      rw [if_pos c, gd_ib (by omega) (by omega), gd_nil, mi, T.2 _ (by omega) vn, w32_id (x := vF (fun i => B (q + i)) i * 10) (by omega) (by omega), w32_id (x := vF (fun i => B (q + i)) i * 10 + B (q + i)) (by omega) (by omega), w32_id (x := vF (fun i => B (q + i)) i * 10 + B (q + i) - 48) (by omega) (by omega), show vF (fun i => B (q + i)) i * 10 + B (q + i) - 48 = vF (fun i => B (q + i)) i * 10 + (B (q + i) - 48) by omega]
      exact ⟨h', e', Fv.tr F', a'⟩
    · have mi : m5 (i : Int) = 5 := by
        unfold m5
        rw [if_neg (by omega)]
      have mj : m5 ((i + 1 : Nat) : Int) = 5 := by
        unfold m5
        rw [if_neg (by omega)]
      rw [if_neg c, mi]
      rw [mj] at e'
      exact ⟨h', e', Fv.tr F', a'⟩
theorem takeNumC {B : Int → Int} {n p lo hi : Int} {h : MH} (b : BB B n) (T : TpC h B n) (hp : m_rd h 1 2 = p) (p0 : 0 ≤ p) (p1 : p ≤ n) (z : m_rd h 1 3 = 0) (l0 : 0 ≤ lo) : ∃ x h', GX9_takeNumber lo hi h = some (x, h') ∧ Fr F123 h h' ∧ (nok B n lo hi p → x = nvl B n p ∧ m_rd h' 1 2 = npo B n p ∧ m_rd h' 1 3 = 0) ∧ (¬ nok B n lo hi p → x = -1 ∧ m_rd h' 1 3 = nfl B n p) := by
  have s := sk_b (B := B) b.2.1 p0 p1
  have b1 := b.2.1
  have vb := nvl_b (B := B) b.2.1 p0 p1
  obtain ⟨h1, e1, F1, a1⟩ := nextC b T hp p0 p1
  have T1 : TpC h1 B n := T.fr F1 (fun a j z => by unfold F12 at z; omega)
  have z1 : m_rd h1 1 3 = 0 := by
    rw [F1.rd (by unfold F12; omega)]
    exact z
  obtain ⟨r1, r2, r3, r4⟩ := run_p (B := B) (q := sk B n p) isD_n b.2.1 (by omega)
  have r2' := r2 s.2
  unfold GX9_takeNumber
  rw [e1, bd_some, isDigitC, bd_some]
  by_cases d : isD (bya B n (sk B n p)) = true
  · have rp : 1 ≤ run isD B n (sk B n p) := by
      have := run_s (B := B) (q := sk B n p) isD_n b.2.1 (by omega) d
      have := (run_p (B := B) (q := sk B n p + 1) isD_n b.2.1 (by omega)).1
      omega
    have L := fun (K : Int → MH → Option (Int × MH)) => tnC_L (u1 := lo) (u2 := hi) (K := K) b (show 0 ≤ sk B n p by omega) s.2 (run isD B n (sk B n p)).toNat FU 0 h1 (by unfold FU; omega) (by omega) T1 (by rw [a1]; omega)
    rw [d, if_pos rfl, if_neg (by decide), a1]
    obtain ⟨h2, e2, F2, a2⟩ := L (fun w5 h6 => jn (bd (GX9_fail (sk B n p) 1 h6) (fun x9 h8 => some ((-1), h8))) (fun j7 => if 5 < (m_w32 ((m_rd h6 1 2) - (sk B n p))) then j7 else if w5 < lo then j7 else if hi < w5 then j7 else some (w5, h6)))
    have e0 : vF (fun i => B (sk B n p + i)) (m5 ((0 : Nat) : Int)) = 0 := rfl
    rw [e0, show sk B n p + ((0 : Nat) : Int) = sk B n p by omega] at e2
    have z2 : m_rd h2 1 3 = 0 := by
      rw [F2.rd (by unfold F12; omega)]
      exact z1
    have F02 : Fr F123 h h2 := (F1.wk (fun a j z => by unfold F12 at z; unfold F123; omega)).tr (F2.wk (fun a j z => by unfold F12 at z; unfold F123; omega))
    rw [e2, a2]
    simp only [jn]
    rw [show sk B n p + run isD B n (sk B n p) - sk B n p = run isD B n (sk B n p) by omega, w32_id (x := run isD B n (sk B n p)) (by omega) (by omega), failC (by omega) (by omega) (by omega) (by omega) z2, bd_some]
    have bad : ¬ nok B n lo hi p → ∃ x h', some ((-1 : Int), m_wr h2 1 3 (1 + 8 * sk B n p + 1)) = some (x, h') ∧ Fr F123 h h' ∧ (nok B n lo hi p → x = nvl B n p ∧ m_rd h' 1 2 = npo B n p ∧ m_rd h' 1 3 = 0) ∧ (¬ nok B n lo hi p → x = -1 ∧ m_rd h' 1 3 = nfl B n p) := by
      intro nn
      refine ⟨-1, _, rfl, F02.wr ⟨rfl, Or.inr rfl⟩, fun y => absurd y nn, fun _ => ⟨rfl, ?_⟩⟩
      rw [rd_eq rfl rfl]
      unfold nfl
      rw [if_neg (by omega)]
    by_cases c1 : 5 < run isD B n (sk B n p)
    · rw [if_pos c1]
      exact bad (fun y => by have := y.2.1; omega)
    rw [if_neg c1]
    show ∃ x h', (if nvl B n p < lo then _ else if hi < nvl B n p then _ else some (nvl B n p, h2)) = _ ∧ _
    by_cases c2 : nvl B n p < lo
    · rw [if_pos c2]
      exact bad (fun y => by have := y.2.2.1; omega)
    rw [if_neg c2]
    by_cases c3 : hi < nvl B n p
    · rw [if_pos c3]
      exact bad (fun y => by have := y.2.2.2; omega)
    rw [if_neg c3]
    exact ⟨_, h2, rfl, F02, fun _ => ⟨rfl, a2, z2⟩, fun y => absurd ⟨rp, by omega, by omega, by omega⟩ y⟩
  · have d' : isD (bya B n (sk B n p)) = false := Bool.eq_false_iff.2 d
    have r0 := run_0 (B := B) d'
    rw [d', if_pos (by decide), a1, failC (by omega) (by omega) (by omega) (by omega) z1, bd_some]
    refine ⟨-1, _, rfl, (F1.wk (fun a j z => by unfold F12 at z; unfold F123; omega)).wr ⟨rfl, Or.inr rfl⟩, fun y => by have := y.1; omega, fun _ => ⟨rfl, ?_⟩⟩
    rw [rd_eq rfl rfl]
    unfold nfl
    rw [if_pos r0]
/-! the reference -/
def F3489 (a j : Int) : Prop := a = 334 ∧ (j = 8 ∨ j = 9 ∨ j = 10)
theorem failM {a k : Int} {h : MH} (a0 : 0 ≤ a) (a1 : a ≤ 400) (k0 : 0 ≤ k) (k1 : k ≤ 4) (z : m_rd h 334 9 = 0) : GX12_fails k a h = some (0, m_wr h 334 9 (1 + 8 * a + k)) := by
  unfold GX12_fails
  rw [if_pos z, w32_id (x := 8 * a) (by omega) (by omega), w32_id (x := 1 + 8 * a) (by omega) (by omega), w32_id (by omega) (by omega)]
theorem nhM_L {B : Int → Int} {n q u1 u2 : Int} {K : Int → MH → Option (Int × MH)} (b : BB B n) (q0 : 0 ≤ q) (q1 : q ≤ n) : ∀ (m f i : Nat) (h : MH), m < f → (i : Int) + m = run isD B n q → TpM h B n → m_rd h 334 8 = q + i → ∃ h', GX12_numberHere_L34 u1 u2 q K f (vF (fun i => B (q + i)) (m5 i)) h = K (vF (fun i => B (q + i)) (m5 (run isD B n q))) h' ∧ Fr F348 h h' ∧ m_rd h' 334 8 = q + run isD B n q := by
  have b1 := b.2.1
  obtain ⟨r1, r2, r3, r4⟩ := run_p (B := B) (q := q) isD_n b.2.1 q0
  have r2' := r2 q1
  intro m
  induction m with
  | zero =>
    intro f i h hf hi T ha
    obtain ⟨g, rfl⟩ : ∃ g, f = g + 1 := ⟨f - 1, by omega⟩
    conv => enter [1, h', 1, 1]; unfold GX12_numberHere_L34
    have ei : (i : Int) = run isD B n q := by omega
    rw [ha, ei, isDigitM b T (by omega), bd_some, r4, if_pos (by decide)]
    exact ⟨h, rfl, Fr.rf, by omega⟩
  | succ m ih =>
    intro f i h hf hi T ha
    obtain ⟨g, rfl⟩ : ∃ g, f = g + 1 := ⟨f - 1, by omega⟩
    have lt := r3 i (by omega) (by omega)
    have vn : q + i < n := by omega
    have lt' := lt
    rw [bya_i (by omega) vn] at lt'
    have lt2 : 48 ≤ B (q + i) ∧ B (q + i) ≤ 57 := of_decide_eq_true lt'
    have bb' := b.2.2 (q + i) (by omega) vn
    have sg := (sgn_32 bb'.1 bb'.2).2.2.2.2 (by omega)
    conv => enter [1, h', 1, 1]; unfold GX12_numberHere_L34
    rw [ha, isDigitM b T (by omega), bd_some, lt, if_pos rfl, if_neg (by decide), ha, w32_id (x := q + i - q) (by omega) (by omega), w32_id (x := q + i + 1) (by omega) (by omega), T.2 _ (by omega) vn, sg]
    have Fv : Fr F348 h (m_wr h 334 8 (q + i + 1)) := Fr.wr Fr.rf ⟨rfl, rfl⟩
    obtain ⟨h', e', F', a'⟩ := ih g (i + 1) (m_wr h 334 8 (q + i + 1)) (by omega) (by omega) (T.fr Fv (fun a j z => by unfold F348 at z; omega)) (by rw [rd_eq rfl rfl]; omega)
    by_cases c : q + (i : Int) - q < 5
    · have mi : m5 (i : Int) = i := by
        unfold m5
        rw [if_pos (by omega)]
        omega
      have mj : m5 ((i + 1 : Nat) : Int) = i + 1 := by
        unfold m5
        split <;> omega
      have v := vF_b (f := fun i => B (q + i)) i (by omega) (fun j j0 j1 => by
        have := r3 j j0 (by omega)
        rw [bya_i (by omega) (by omega)] at this
        exact of_decide_eq_true this)
      have e1 : vF (fun i => B (q + i)) (i + 1) = vF (fun i => B (q + i)) i * 10 + (B (q + i) - 48) := rfl
      rw [mj, e1] at e'
      rw [if_pos c, gd_ib (by omega) (by omega), gd_nil, mi, w32_id (x := 10 * vF (fun i => B (q + i)) i) (by omega) (by omega), w32_id (x := 10 * vF (fun i => B (q + i)) i + B (q + i)) (by omega) (by omega), w32_id (x := 10 * vF (fun i => B (q + i)) i + B (q + i) - 48) (by omega) (by omega), show 10 * vF (fun i => B (q + i)) i + B (q + i) - 48 = vF (fun i => B (q + i)) i * 10 + (B (q + i) - 48) by omega]
      exact ⟨h', e', Fv.tr F', a'⟩
    · have mi : m5 (i : Int) = 5 := by
        unfold m5
        rw [if_neg (by omega)]
      have mj : m5 ((i + 1 : Nat) : Int) = 5 := by
        unfold m5
        rw [if_neg (by omega)]
      rw [if_neg c, mi]
      rw [mj] at e'
      exact ⟨h', e', Fv.tr F', a'⟩
theorem numM {B : Int → Int} {n p lo hi : Int} {h : MH} (b : BB B n) (T : TpM h B n) (hp : m_rd h 334 8 = p) (p0 : 0 ≤ p) (p1 : p ≤ n) (z : m_rd h 334 9 = 0) : ∃ x h', GX12_numberHere lo hi h = some (x, h') ∧ Fr F3489 h h' ∧ (nok B n lo hi p → x = 1 ∧ m_rd h' 334 10 = nvl B n p ∧ m_rd h' 334 8 = npo B n p ∧ m_rd h' 334 9 = 0) ∧ (¬ nok B n lo hi p → x = 0 ∧ m_rd h' 334 9 = nfl B n p) := by
  have s := sk_b (B := B) b.2.1 p0 p1
  have b1 := b.2.1
  have vb := nvl_b (B := B) b.2.1 p0 p1
  obtain ⟨h1, e1, F1, a1⟩ := seeM b T hp p0 p1
  have T1 : TpM h1 B n := T.fr F1 (fun a j z => by unfold F348 at z; omega)
  have z1 : m_rd h1 334 9 = 0 := by
    rw [F1.rd (by unfold F348; omega)]
    exact z
  obtain ⟨r1, r2, r3, r4⟩ := run_p (B := B) (q := sk B n p) isD_n b.2.1 (by omega)
  have r2' := r2 s.2
  unfold GX12_numberHere
  rw [e1, bd_some, a1, isDigitM b T1 (by omega), bd_some]
  by_cases d : isD (bya B n (sk B n p)) = true
  · have rp : 1 ≤ run isD B n (sk B n p) := by
      have := run_s (B := B) (q := sk B n p) isD_n b.2.1 (by omega) d
      have := (run_p (B := B) (q := sk B n p + 1) isD_n b.2.1 (by omega)).1
      omega
    rw [d, if_pos rfl, if_neg (by decide), a1]
    obtain ⟨h2, e2, F2, a2⟩ := nhM_L (u1 := lo) (u2 := hi) (K := fun w5 h6 => jn (fun (h8 : MH) => bd (GX12_fails 1 (sk B n p) h8) (fun x10 h9 => if x10 = 0 then some ((0 : Int), h9) else some (1, h9))) (fun j7 => if 5 < (m_w32 ((m_rd (m_wr h6 334 10 w5) 334 8) - (sk B n p))) then j7 (m_wr h6 334 10 w5) else bd (GX12_in w5 lo hi (m_wr h6 334 10 w5)) (fun x12 h11 => if x12 = 0 then j7 h11 else some (1, h11)))) b (show 0 ≤ sk B n p by omega) s.2 (run isD B n (sk B n p)).toNat FU 0 h1 (by unfold FU; omega) (by omega) T1 (by rw [a1]; omega)
    have e0 : vF (fun i => B (sk B n p + i)) (m5 ((0 : Nat) : Int)) = 0 := rfl
    rw [e0] at e2
    have z2 : m_rd h2 334 9 = 0 := by
      rw [F2.rd (by unfold F348; omega)]
      exact z1
    have F02 : Fr F3489 h (m_wr h2 334 10 (nvl B n p)) := ((F1.wk (fun a j z => by unfold F348 at z; unfold F3489; omega)).tr (F2.wk (fun a j z => by unfold F348 at z; unfold F3489; omega))).wr (by unfold F3489; omega)
    have z3 : m_rd (m_wr h2 334 10 (nvl B n p)) 334 9 = 0 := by
      rw [rd_ne (by omega)]
      exact z2
    rw [e2]
    simp only [jn]
    rw [rd_ne (b := 334) (j := 8) (by omega), a2, show sk B n p + run isD B n (sk B n p) - sk B n p = run isD B n (sk B n p) by omega, w32_id (x := run isD B n (sk B n p)) (by omega) (by omega), in_ok, bd_some]
    show ∃ x h', (if 5 < run isD B n (sk B n p) then bd (GX12_fails 1 (sk B n p) (m_wr h2 334 10 (nvl B n p))) (fun x10 h9 => if x10 = 0 then some ((0 : Int), h9) else some (1, h9)) else if (if lo ≤ nvl B n p ∧ nvl B n p ≤ hi then (1 : Int) else 0) = 0 then bd (GX12_fails 1 (sk B n p) (m_wr h2 334 10 (nvl B n p))) (fun x10 h9 => if x10 = 0 then some ((0 : Int), h9) else some (1, h9)) else some (1, m_wr h2 334 10 (nvl B n p))) = some (x, h') ∧ _
    rw [failM (h := m_wr h2 334 10 (nvl B n p)) (by omega) (by omega) (by omega) (by omega) z3, bd_some, if_pos rfl]
    have bad : ¬ nok B n lo hi p → ∃ x h', some ((0 : Int), m_wr (m_wr h2 334 10 (nvl B n p)) 334 9 (1 + 8 * sk B n p + 1)) = some (x, h') ∧ Fr F3489 h h' ∧ (nok B n lo hi p → x = 1 ∧ m_rd h' 334 10 = nvl B n p ∧ m_rd h' 334 8 = npo B n p ∧ m_rd h' 334 9 = 0) ∧ (¬ nok B n lo hi p → x = 0 ∧ m_rd h' 334 9 = nfl B n p) := by
      intro nn
      refine ⟨0, _, rfl, F02.wr (by unfold F3489; omega), fun y => absurd y nn, fun _ => ⟨rfl, ?_⟩⟩
      rw [rd_eq rfl rfl]
      unfold nfl
      rw [if_neg (by omega)]
    by_cases c1 : 5 < run isD B n (sk B n p)
    · rw [if_pos c1]
      exact bad (fun y => by have := y.2.1; omega)
    rw [if_neg c1]
    by_cases c2 : lo ≤ nvl B n p ∧ nvl B n p ≤ hi
    · rw [if_neg (by rw [t01]; exact fun z => z c2)]
      refine ⟨1, _, rfl, F02, fun _ => ⟨rfl, rd_eq rfl rfl, ?_, z3⟩, fun y => absurd ⟨rp, by omega, c2⟩ y⟩
      rw [rd_ne (by omega)]
      exact a2
    · rw [if_pos (by rw [t01]; exact c2)]
      exact bad (fun y => c2 y.2.2)
  · have d' : isD (bya B n (sk B n p)) = false := Bool.eq_false_iff.2 d
    have r0 := run_0 (B := B) d'
    rw [d', if_pos (by decide), a1, failM (by omega) (by omega) (by omega) (by omega) z1, bd_some, gd_cons (show GT 0 from Or.inl rfl), gd_nil]
    refine ⟨0, _, rfl, (F1.wk (fun a j z => by unfold F348 at z; unfold F3489; omega)).wr (by unfold F3489; omega), fun y => by have := y.1; omega, fun _ => ⟨rfl, ?_⟩⟩
    rw [rd_eq rfl rfl]
    unfold nfl
    rw [if_pos r0]
theorem TpC.f123 {h h' : MH} {B : Int → Int} {n : Int} (T : TpC h B n) (F : Fr F123 h h') : TpC h' B n := T.fr F (fun a j z => by unfold F123 at z; omega)
theorem TpM.f3 {h h' : MH} {B : Int → Int} {n : Int} (T : TpM h B n) (F : Fr F3489 h h') : TpM h' B n := T.fr F (fun a j z => by unfold F3489 at z; omega)
