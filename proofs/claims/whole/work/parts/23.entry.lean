theorem RV.cat1 {ws : va_W} {sA : Nat → Nat} {b : Nat} {x : MV} {v : Value} (h : RV ws sA b x v) : v.category = match x with | .inr (.inl _) => 2 | _ => 1 := by
  rcases x with x | x | x
  · exact h.cat.2 (fun y z => by cases z)
  · obtain ⟨n, rfl, -⟩ := h
    rfl
  · exact h.cat.2 (fun y z => by cases z)
theorem RS.sum {ws : va_W} {sA : Nat → Nat} {b : Nat} : ∀ {st : List MV} {r : List Value}, RS ws sA b st r → (r.map fun v => v.category).sum = m_sum st
  | [], [], _ => rfl
  | x :: l, v :: r, h => by
    have h1 := RV.cat1 h.1
    have h2 := RS.sum h.2
    rcases x with x | x | x
    · simp only [List.map_cons, List.sum_cons, h1, h2, m_sum]
    · simp only [List.map_cons, List.sum_cons, h1, h2, m_sum]
    · simp only [List.map_cons, List.sum_cons, h1, h2, m_sum]
  | [], _ :: _, h => h.elim
  | _ :: _, [], h => h.elim
theorem RS.len {ws : va_W} {sA : Nat → Nat} {b : Nat} : ∀ {st : List MV} {r : List Value}, RS ws sA b st r → r.length = st.length
  | [], [], _ => rfl
  | x :: l, v :: r, h => by simp [RS.len h.2]
  | [], _ :: _, h => h.elim
  | _ :: _, [], h => h.elim
theorem m_args_rs {ws : va_W} {sA : Nat → Nat} {b : Nat} : ∀ {k : Nat} {acc st as r : List MV} {accR stR : List Value}, m_args k acc st = some (as, r) → RS ws sA b st stR → RS ws sA b acc accR → ∃ pR rR : List Value, stR = pR ++ rR ∧ RS ws sA b r rR ∧ RS ws sA b as (pR.reverse ++ accR) ∧ pR.length = k
  | 0, acc, st, as, r, accR, stR, h, hs, ha => by
    cases h
    exact ⟨[], stR, rfl, hs, ha, rfl⟩
  | k + 1, acc, [], as, r, accR, stR, h, hs, ha => by cases h
  | k + 1, acc, v :: st, as, r, accR, stR, h, hs, ha => by
    obtain ⟨w, r1, rfl, hv, h1⟩ := RS.cons hs
    obtain ⟨pR, rR, e1, e2, e3, e4⟩ := m_args_rs (k := k) (acc := v :: acc) (accR := w :: accR) h h1 ⟨hv, ha⟩
    refine ⟨w :: pR, rR, by rw [e1]; rfl, e2, ?_, by simp [e4]⟩
    rw [List.reverse_cons, List.append_assoc]
    exact e3
theorem lg_sl_c (v : Value) (r : List Value) : lg_sl (v :: r) = (if v.category = 2 then [Slot.val v, Slot.second] else [Slot.val v]) ++ lg_sl r := by
  simp [lg_sl]
theorem m_ent_rs {ws : va_W} {sA : Nat → Nat} {b : Nat} : ∀ {as : List MV} {aR : List Value} (o : Nat), RS ws sA b as aR → (lg_sl aR).length = (m_entA as).length ∧ ∀ (i : Nat) (x : MV), m_gl (m_entA as) i = some x → ∃ v : Value, (o + i, v) ∈ lv_args o aR ∧ RV ws sA b x v
  | [], [], o, h => ⟨rfl, fun i x hi => by simp [m_entA, m_gl] at hi⟩
  | a :: as, v :: aR, o, h => by
    have hc := RV.cat1 h.1
    rcases a with a | a | a
    · obtain ⟨h1, h2⟩ := m_ent_rs (o + 1) h.2
      have hc : v.category = 1 := hc
      refine ⟨by rw [lg_sl_c, hc]; simp only [m_entA, List.length_append, List.length_cons, h1]; simp; omega, fun i x hi => ?_⟩
      cases i with
      | zero => cases hi; exact ⟨v, List.mem_cons_self, h.1⟩
      | succ i =>
        obtain ⟨w, h3, h4⟩ := h2 i x hi
        refine ⟨w, List.mem_cons_of_mem _ ?_, h4⟩
        rw [if_neg (by rw [hc]; decide), show o + (i + 1) = o + 1 + i by omega]
        exact h3
    · obtain ⟨h1, h2⟩ := m_ent_rs (o + 2) h.2
      have hc : v.category = 2 := hc
      refine ⟨by rw [lg_sl_c, hc]; simp only [m_entA, List.length_append, List.length_cons, h1]; simp; omega, fun i x hi => ?_⟩
      match i, hi with
      | 0, hi => cases hi; exact ⟨v, List.mem_cons_self, h.1⟩
      | 1, hi => cases hi
      | i + 2, hi =>
        obtain ⟨w, h3, h4⟩ := h2 i x hi
        refine ⟨w, List.mem_cons_of_mem _ ?_, h4⟩
        rw [if_pos hc, show o + (i + 2) = o + 2 + i by omega]
        exact h3
    · obtain ⟨h1, h2⟩ := m_ent_rs (o + 1) h.2
      have hc : v.category = 1 := hc
      refine ⟨by rw [lg_sl_c, hc]; simp only [m_entA, List.length_append, List.length_cons, h1]; simp; omega, fun i x hi => ?_⟩
      cases i with
      | zero => cases hi; exact ⟨v, List.mem_cons_self, h.1⟩
      | succ i =>
        obtain ⟨w, h3, h4⟩ := h2 i x hi
        refine ⟨w, List.mem_cons_of_mem _ ?_, h4⟩
        rw [if_neg (by rw [hc]; decide), show o + (i + 1) = o + 1 + i by omega]
        exact h3
  | [], _ :: _, o, h => h.elim
  | _ :: _, [], o, h => h.elim
theorem m_gl_app : ∀ (l1 l2 : ML) (i : Nat) (x : MV), (∀ j, m_gl l2 j = none) → m_gl (l1 ++ l2) i = some x → m_gl l1 i = some x
  | [], l2, i, x, h, hi => by rw [List.nil_append, h] at hi; cases hi
  | a :: l1, l2, 0, x, h, hi => hi
  | a :: l1, l2, i + 1, x, h, hi => m_gl_app l1 l2 i x h hi
theorem m_gl_rep : ∀ (n j : Nat), m_gl (List.replicate n none) j = none
  | 0, j => by simp [m_gl]
  | n + 1, 0 => rfl
  | n + 1, j + 1 => m_gl_rep n j
/-- the locals with which a method begins -/
theorem RLo.ent {ws : va_W} {sA : Nat → Nat} {b n : Nat} {as : List MV} {aR : List Value} (h : RS ws sA b as aR) (hn : (m_entA as).length ≤ n) : RLo ws sA b n (m_ent n as) ((lg_sl aR ++ List.replicate (n - (lg_sl aR).length) Slot.unset).toArray) := by
  obtain ⟨h1, h2⟩ := m_ent_rs 0 h
  refine ⟨by simp [m_ent]; omega, _, lv_entry aR (by omega), fun i x hi => ?_⟩
  obtain ⟨v, h3, h4⟩ := h2 i x (m_gl_app _ _ _ _ (m_gl_rep _) hi)
  rw [Nat.zero_add] at h3
  exact ⟨v, h3, h4⟩
