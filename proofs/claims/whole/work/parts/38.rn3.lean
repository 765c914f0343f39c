/-! RUNS: calls and what the machine gives -/
theorem lvE_gl : ∀ {as : List MV} {o k : Nat} {v : MV}, m_l (lvE o as) k = some v → o ≤ k ∧ m_gl (m_entA as) (k - o) = some v
  | [], o, k, v, h => by cases h
  | a :: as, o, k, v, h => by
    rcases a with a | a | a
    · have g : m_l ((o, Sum.inl a) :: lvE (o + 1) as) k = some v := h
      rw [m_l_cons] at g
      by_cases hk : o = k
      · rw [if_pos hk] at g
        subst hk
        exact ⟨Nat.le_refl _, by rw [Nat.sub_self]; exact g⟩
      · rw [if_neg hk] at g
        obtain ⟨h1, h2⟩ := lvE_gl (as := as) g
        refine ⟨by omega, ?_⟩
        rw [show k - o = (k - (o + 1)) + 1 by omega]
        exact h2
    · have g : m_l ((o, Sum.inr (Sum.inl a)) :: lvE (o + 2) as) k = some v := h
      rw [m_l_cons] at g
      by_cases hk : o = k
      · rw [if_pos hk] at g
        subst hk
        exact ⟨Nat.le_refl _, by rw [Nat.sub_self]; exact g⟩
      · rw [if_neg hk] at g
        obtain ⟨h1, h2⟩ := lvE_gl (as := as) g
        refine ⟨by omega, ?_⟩
        rw [show k - o = (k - (o + 2)) + 2 by omega]
        exact h2
    · have g : m_l ((o, Sum.inr (Sum.inr a)) :: lvE (o + 1) as) k = some v := h
      rw [m_l_cons] at g
      by_cases hk : o = k
      · rw [if_pos hk] at g
        subst hk
        exact ⟨Nat.le_refl _, by rw [Nat.sub_self]; exact g⟩
      · rw [if_neg hk] at g
        obtain ⟨h1, h2⟩ := lvE_gl (as := as) g
        refine ⟨by omega, ?_⟩
        rw [show k - o = (k - (o + 1)) + 1 by omega]
        exact h2
theorem m_gl_left : ∀ {l1 l2 : ML} {i : Nat} {x : MV}, m_gl l1 i = some x → m_gl (l1 ++ l2) i = some x
  | [], l2, i, x, h => by cases h
  | a :: l1, l2, 0, x, h => h
  | a :: l1, l2, i + 1, x, h => m_gl_left (l1 := l1) h
theorem Kn_ent {as : List MV} {n : Nat} : Kn (lvE 0 as) (m_ent n as) := fun k w hw => m_gl_left (by have := (lvE_gl hw).2; rw [Nat.sub_zero] at this; exact this)
theorem m_ent_len {as : List MV} {n : Nat} (h : (m_entA as).length ≤ n) : (m_ent n as).length = n := by
  simp [m_ent]
  omega
theorem rcv_ok {own : Nat} {a : Int} {as : List MV} {h : MH} (hg : GK h a own) : m_rcv own (.inr (.inr a) :: as) h = true := GK.ok hg
section RNy
variable {xs : Int → Int} {L : Int} {q : MI} {d pc pc' : Nat} {lv lv' lv2 : LV} {st st' r : List MV} {h h' : MH} {R : MR} {cs : List Prop}
theorem RN.cl {q2 : MI} {as : List MV} {v : Option MV} {h1 : MH} (he : Nat.ble (m_entA as).length q2.2.2.2.1 = true) (hcal : RN xs L q2 d 0 (lvE 0 as) [] h (v, h1))
    (hr : ∀ (n : Nat) (ls : ML), m_run xs L n d q2 0 (m_ent q2.2.2.2.1 as) [] h = (v, h1) → m_run xs L (n + 1) (d + 1) q pc ls st h = m_run xs L n (d + 1) q (pc + 3) ls (v.toList ++ r) h1) (k9 : RN xs L q (d + 1) (pc + 3) lv (v.toList ++ r) h1 R) : RN xs L q (d + 1) pc lv st h R := by
  intro ls hl H
  obtain ⟨N1, hN1⟩ := hcal (m_ent q2.2.2.2.1 as) (m_ent_len (Nat.le_of_ble_eq_true he)) Kn_ent
  obtain ⟨N2, hN2⟩ := k9 ls hl H
  refine ⟨N1 + N2 + 1, fun n hn => ?_⟩
  cases n with
  | zero => omega
  | succ n =>
    rw [hr n ls (hN1 n (by omega))]
    exact hN2 n (by omega)
theorem RN.cv {i k : Nat} {q2 : MI} {as : List MV} {v : Option MV} {h1 : MH} (hs : m_isop q.2.2.2.2.2 pc (.invokevirtual i) = true) (hM : m_l (m_M q.1).1 i = some k) (hk : m_mi k = some q2) (ha : m_args q2.2.2.1 [] st = some (as, r)) (hsum : Nat.ble (m_sum r) 8 = true) (he : Nat.ble (m_entA as).length q2.2.2.2.1 = true) (hr : m_rcv q2.1 as h = true) (hcal : RN xs L q2 d 0 (lvE 0 as) [] h (v, h1)) (k9 : RN xs L q (d + 1) (pc + 3) lv (v.toList ++ r) h1 R) : RN xs L q (d + 1) pc lv st h R := by
  refine RN.cl he hcal (fun n ls hn => ?_) k9
  conv => lhs; unfold m_run
  rw [of_decide_eq_true hs]
  dsimp only
  rw [hM]
  dsimp only
  rw [hk]
  dsimp only
  rw [ha]
  dsimp only
  rw [hn, chk_t (by rw [hsum, he, hr]; rfl)]
theorem RN.cst {i k : Nat} {q2 : MI} {as : List MV} {v : Option MV} {h1 : MH} (hs : m_isop q.2.2.2.2.2 pc (.invokestatic i) = true) (hM : m_l (m_M q.1).2.1 i = some k) (hk : m_mi k = some q2) (ha : m_args q2.2.2.1 [] st = some (as, r)) (hsum : Nat.ble (m_sum r) 8 = true) (he : Nat.ble (m_entA as).length q2.2.2.2.1 = true) (hcal : RN xs L q2 d 0 (lvE 0 as) [] h (v, h1)) (k9 : RN xs L q (d + 1) (pc + 3) lv (v.toList ++ r) h1 R) : RN xs L q (d + 1) pc lv st h R := by
  refine RN.cl he hcal (fun n ls hn => ?_) k9
  conv => lhs; unfold m_run
  rw [of_decide_eq_true hs]
  dsimp only
  rw [hM]
  dsimp only
  rw [hk]
  dsimp only
  rw [ha]
  dsimp only
  rw [hn, chk_t (by rw [hsum, he]; rfl)]
theorem RN.ci {i k : Nat} {q2 : MI} {as : List MV} {v : Option MV} {h1 : MH} (hs : m_isop q.2.2.2.2.2 pc (.invokespecial i) = true) (hM : m_l (m_M q.1).2.2 i = some k) (hk : m_mi k = some q2) (ha : m_args q2.2.2.1 [] st = some (as, r)) (hsum : Nat.ble (m_sum r) 8 = true) (he : Nat.ble (m_entA as).length q2.2.2.2.1 = true) (hr : m_rcv q2.1 as h = true) (hcal : RN xs L q2 d 0 (lvE 0 as) [] h (v, h1)) (k9 : RN xs L q (d + 1) (pc + 3) lv (v.toList ++ r) h1 R) : RN xs L q (d + 1) pc lv st h R := by
  refine RN.cl he hcal (fun n ls hn => ?_) k9
  conv => lhs; unfold m_run
  rw [of_decide_eq_true hs]
  dsimp only
  rw [hM]
  dsimp only
  rw [hk]
  dsimp only
  rw [ha]
  dsimp only
  rw [hn, chk_t (by rw [hsum, he, hr]; rfl)]
theorem RN.cp {i : Nat} {a b i0 j0 n0 : Int} (hs : m_isop q.2.2.2.2.2 pc (.invokestatic i) = true) (hM : m_l (m_M q.1).2.1 i = some 1001) (hsum : Nat.ble (m_sum r) 8 = true) (hc : GC h a i0 b j0 n0) (k9 : RN xs L q (d + 1) (pc + 3) lv r (m_cpy h a i0 b j0 n0) R) : RN xs L q (d + 1) pc lv (.inl n0 :: .inl j0 :: .inr (.inr b) :: .inl i0 :: .inr (.inr a) :: r) h R := by
  refine RN.stp (fun n ls _ _ => ?_) k9
  conv => lhs; unfold m_run
  rw [of_decide_eq_true hs]
  dsimp only
  rw [hM]
  dsimp only
  rw [show m_mi 1001 = none from rfl]
  dsimp only
  obtain ⟨c1, c2, c3, c4, c5, c6, c7⟩ := hc
  show m_run xs L n (d + 1) q (pc + 3) ls r (m_chk _ _) = _
  rw [chk_t]
  rw [hsum, show Nat.ble 1 (d + 1) = true from Nat.ble_eq.mpr (by omega)]
  simp [m_is, c1, c2, c3, c4, c5, c6, c7]
theorem RN.mx {i : Nat} {x y : Int} (hs : m_isop q.2.2.2.2.2 pc (.invokestatic i) = true) (hM : m_l (m_M q.1).2.1 i = some 1004) (hsum : Nat.ble (m_sum r) 8 = true) (k9 : RN xs L q (d + 1) (pc + 3) lv (.inl (m_mx x y) :: r) h R) : RN xs L q (d + 1) pc lv (.inl y :: .inl x :: r) h R := by
  refine RN.stp (fun n ls _ _ => ?_) k9
  conv => lhs; unfold m_run
  rw [of_decide_eq_true hs]
  dsimp only
  rw [hM]
  dsimp only
  rw [show m_mi 1004 = none from rfl]
  dsimp only
  show m_run xs L n (d + 1) q (pc + 3) ls _ (m_chk _ _) = _
  rw [chk_t]
  · rfl
  · rw [hsum, show Nat.ble 1 (d + 1) = true from Nat.ble_eq.mpr (by omega)]
    rfl
theorem RN.mn {i : Nat} {x y : Int} (hs : m_isop q.2.2.2.2.2 pc (.invokestatic i) = true) (hM : m_l (m_M q.1).2.1 i = some 1005) (hsum : Nat.ble (m_sum r) 8 = true) (k9 : RN xs L q (d + 1) (pc + 3) lv (.inl (m_mn x y) :: r) h R) : RN xs L q (d + 1) pc lv (.inl y :: .inl x :: r) h R := by
  refine RN.stp (fun n ls _ _ => ?_) k9
  conv => lhs; unfold m_run
  rw [of_decide_eq_true hs]
  dsimp only
  rw [hM]
  dsimp only
  rw [show m_mi 1005 = none from rfl]
  dsimp only
  show m_run xs L n (d + 1) q (pc + 3) ls _ (m_chk _ _) = _
  rw [chk_t]
  · rfl
  · rw [hsum, show Nat.ble 1 (d + 1) = true from Nat.ble_eq.mpr (by omega)]
    rfl
theorem RN.sl {i : Nat} {a : Int} (hs : m_isop q.2.2.2.2.2 pc (.invokevirtual i) = true) (hM : m_l (m_M q.1).1 i = some 1002) (hsum : Nat.ble (m_sum r) 8 = true) (hc : GX a) (k9 : RN xs L q (d + 6) (pc + 3) lv (.inl (t_len a) :: r) h R) : RN xs L q (d + 6) pc lv (.inr (.inr a) :: r) h R := by
  refine RN.stp (fun n ls _ _ => ?_) k9
  conv => lhs; unfold m_run
  rw [of_decide_eq_true hs]
  dsimp only
  rw [hM]
  dsimp only
  rw [show m_mi 1002 = none from rfl]
  dsimp only
  obtain ⟨c1, c2⟩ := hc
  show m_run xs L n (d + 6) q (pc + 3) ls _ (m_chk _ _) = _
  rw [chk_t]
  · rfl
  · rw [hsum, show Nat.ble 6 (d + 6) = true from Nat.ble_eq.mpr (by omega)]
    simp [c1, c2]
theorem RN.sc {i : Nat} {a x : Int} (hs : m_isop q.2.2.2.2.2 pc (.invokevirtual i) = true) (hM : m_l (m_M q.1).1 i = some 1003) (hsum : Nat.ble (m_sum r) 8 = true) (hc : GY a x) (k9 : RN xs L q (d + 6) (pc + 3) lv (.inl (t_chr a x) :: r) h R) : RN xs L q (d + 6) pc lv (.inl x :: .inr (.inr a) :: r) h R := by
  refine RN.stp (fun n ls _ _ => ?_) k9
  conv => lhs; unfold m_run
  rw [of_decide_eq_true hs]
  dsimp only
  rw [hM]
  dsimp only
  rw [show m_mi 1003 = none from rfl]
  dsimp only
  obtain ⟨c1, c2, c3, c4⟩ := hc
  show m_run xs L n (d + 6) q (pc + 3) ls _ (m_chk _ _) = _
  rw [chk_t]
  · rfl
  · rw [hsum, show Nat.ble 6 (d + 6) = true from Nat.ble_eq.mpr (by omega)]
    unfold t_len at c4
    simp [c1, c2, c3, c4]
theorem RN.oi {i : Nat} {a : Int} (hs : m_isop q.2.2.2.2.2 pc (.invokespecial i) = true) (hM : m_l (m_M q.1).2.2 i = some 1000) (hsum : Nat.ble (m_sum r) 8 = true) (hc : ¬ a = -1) (k9 : RN xs L q (d + 1) (pc + 3) lv r h R) : RN xs L q (d + 1) pc lv (.inr (.inr a) :: r) h R := by
  refine RN.stp (fun n ls _ _ => ?_) k9
  conv => lhs; unfold m_run
  rw [of_decide_eq_true hs]
  dsimp only
  rw [hM]
  dsimp only
  rw [show m_mi 1000 = none from rfl]
  dsimp only
  show m_run xs L n (d + 1) q (pc + 3) ls _ (m_chk _ _) = _
  rw [chk_t]
  · rfl
  · rw [hsum, show Nat.ble 1 (d + 1) = true from Nat.ble_eq.mpr (by omega)]
    simp [hc]
/-- the script: its length, its numbers -/
theorem RN.xl (hs : m_isop q.2.2.2.2.2 pc .arraylength = true) (k9 : RN xs L q d (pc + 1) lv (.inl L :: r) h R) : RN xs L q d pc lv (.inr (.inr (-2)) :: r) h R := by
  refine RN.stp (fun n ls _ _ => ?_) k9
  conv => lhs; unfold m_run
  rw [of_decide_eq_true hs]
  rfl
theorem RN.xa {i : Int} (hs : m_isop q.2.2.2.2.2 pc .iaload = true) (h0 : 0 ≤ i) (h1 : i < L) (k9 : RN xs L q d (pc + 1) lv (.inl (xs i) :: r) h R) : RN xs L q d pc lv (.inl i :: .inr (.inr (-2)) :: r) h R := by
  refine RN.stp (fun n ls _ _ => ?_) k9
  conv => lhs; unfold m_run
  rw [of_decide_eq_true hs]
  show m_run xs L n d q (pc + 1) ls (.inl (xs i) :: r) (m_chk _ _) = _
  rw [chk_t (by simp [h0, h1])]
end RNy
