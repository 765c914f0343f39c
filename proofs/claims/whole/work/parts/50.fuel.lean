/-! MORE FUEL CHANGES NOTHING; and methods that don't look at the script don't depend on it -/
theorem m_swi_eq {k1 k2 : Nat → MR} {pc : Nat} {x dflt : Int} (h : ∀ p, k1 p = k2 p) (lo : Int) (offs : List Int) : m_swi k1 pc x dflt lo offs = m_swi k2 pc x dflt lo offs := by
  rw [m_swi_t, m_swi_t, h]
theorem m_run_up {xs : Int → Int} {L : Int} : ∀ (n d : Nat) (q : MI) (pc : Nat) (ls : ML) (st : List MV) (h : MH), m_ok (m_run xs L n d q pc ls st h).2 = true → m_run xs L (n + 1) d q pc ls st h = m_run xs L n d q pc ls st h := by
  intro n
  induction n with
  | zero =>
    intro d q pc ls st h hok
    exact (m_bad_ok hok).elim
  | succ n ih =>
    intro d q pc ls st h hok
    unfold m_run at hok
    conv => lhs; unfold m_run
    conv => rhs; unfold m_run
    cases hop : m_lk q.2.2.2.2.2 pc with
    | none => rfl
    | some op =>
      rw [hop] at hok
      dsimp only at hok ⊢
      split at hok
      · rfl
      · rfl
      · rfl
      · rfl
      · exact ih _ _ _ _ _ _ hok
      · split at hok
        · split at hok
          · rename_i hc; try dsimp only
            rw [if_pos hc, if_pos hc]; exact ih _ _ _ _ _ _ hok
          · rename_i hc; try dsimp only
            rw [if_neg hc, if_neg hc]; exact ih _ _ _ _ _ _ hok
        · exact (m_bad_ok hok).elim
      · split at hok
        · split at hok
          · rename_i hc; try dsimp only
            rw [if_pos hc, if_pos hc]; exact ih _ _ _ _ _ _ hok
          · rename_i hc; try dsimp only
            rw [if_neg hc, if_neg hc]; exact ih _ _ _ _ _ _ hok
        · exact (m_bad_ok hok).elim
      · split at hok
        · split at hok
          · rename_i hc; try dsimp only
            rw [if_pos hc, if_pos hc]; exact ih _ _ _ _ _ _ hok
          · rename_i hc; try dsimp only
            rw [if_neg hc, if_neg hc]; exact ih _ _ _ _ _ _ hok
        · exact (m_bad_ok hok).elim
      · split at hok
        · rw [m_swi_t] at hok
          try dsimp only
          rw [m_swi_t, m_swi_t]
          exact ih _ _ _ _ _ _ hok
        · exact (m_bad_ok hok).elim
      · split at hok
        · rw [m_lsw_t] at hok
          try dsimp only
          rw [m_lsw_t, m_lsw_t]
          exact ih _ _ _ _ _ _ hok
        · exact (m_bad_ok hok).elim
      · split at hok
        · rename_i k hk
          split at hok
          · rename_i hq
            split at hok
            · rename_i has
              have h1 := (m_chk_ok ((m_run_mo _ _ _ _ _ _ _).2.2 hok)).2
              rw [ih _ _ _ _ _ _ h1, ih _ _ _ _ _ _ hok]
            · exact (m_bad_ok hok).elim
          · exact ih _ _ _ _ _ _ hok
        · exact (m_bad_ok hok).elim
      · split at hok
        · rename_i k hk
          split at hok
          · rename_i hq
            split at hok
            · rename_i has
              have h1 := (m_chk_ok ((m_run_mo _ _ _ _ _ _ _).2.2 hok)).2
              rw [ih _ _ _ _ _ _ h1, ih _ _ _ _ _ _ hok]
            · exact (m_bad_ok hok).elim
          · exact ih _ _ _ _ _ _ hok
        · exact (m_bad_ok hok).elim
      · split at hok
        · rename_i k hk
          split at hok
          · rename_i hq
            split at hok
            · rename_i has
              have h1 := (m_chk_ok ((m_run_mo _ _ _ _ _ _ _).2.2 hok)).2
              rw [ih _ _ _ _ _ _ h1, ih _ _ _ _ _ _ hok]
            · exact (m_bad_ok hok).elim
          · exact ih _ _ _ _ _ _ hok
        · exact (m_bad_ok hok).elim
      · exact ih _ _ _ _ _ _ hok
theorem m_run_le {xs : Int → Int} {L : Int} {n d : Nat} {q : MI} {pc : Nat} {ls : ML} {st : List MV} {h : MH} {R : MR} (hr : m_run xs L n d q pc ls st h = R) (hok : m_ok R.2 = true) : ∀ m, n ≤ m → m_run xs L m d q pc ls st h = R := by
  intro m hm
  induction m with
  | zero =>
    have : n = 0 := by omega
    subst this
    exact hr
  | succ m ih =>
    by_cases hnm : n = m + 1
    · subst hnm
      exact hr
    · have h1 := ih (by omega)
      rw [m_run_up m d q pc ls st h (by rw [h1]; exact hok)]
      exact h1
def m_fop (F : MI → Bool) (own : Nat) (op : Instr) : Bool := match op with
  | .iaload => false
  | .arraylength => false
  | .invokevirtual i => match m_l (m_M own).1 i with
    | some k => match m_mi k with
      | some q2 => F q2
      | none => true
    | none => true
  | .invokestatic i => match m_l (m_M own).2.1 i with
    | some k => match m_mi k with
      | some q2 => F q2
      | none => true
    | none => true
  | .invokespecial i => match m_l (m_M own).2.2 i with
    | some k => match m_mi k with
      | some q2 => F q2
      | none => true
    | none => true
  | _ => true
def m_free : Nat → MI → Bool
  | 0, q => q.2.2.2.2.2.all (fun p => m_fop (fun _ => false) q.1 p.2)
  | D + 1, q => q.2.2.2.2.2.all (fun p => m_fop (m_free D) q.1 p.2)
theorem m_ex_free {P : MP} {ft : Nat → List Nat} {q : MI} {xs ys : Int → Int} {L K : Int} {op : Instr} {pc : Nat} {ls : ML} {st : List MV} {h : MH} (h1 : op ≠ .iaload) (h2 : op ≠ .arraylength) : m_ex P ft q xs L op pc ls st h = m_ex P ft q ys K op pc ls st h := by
  cases op
  case iaload => exact absurd rfl h1
  case arraylength => exact absurd rfl h2
  all_goals rfl
theorem m_free_s {D : Nat} {q : MI} (h : m_free D q = true) : ∃ F : MI → Bool, (∀ q2, F q2 = true → ∃ D2, m_free D2 q2 = true) ∧ q.2.2.2.2.2.all (fun p => m_fop F q.1 p.2) = true := by
  cases D with
  | zero => exact ⟨fun _ => false, fun q2 z => (by cases z), h⟩
  | succ D => exact ⟨m_free D, fun q2 z => ⟨D, z⟩, h⟩
set_option maxHeartbeats 1000000 in
theorem m_free_run {xs ys : Int → Int} {L K : Int} : ∀ (n D d : Nat) (q : MI) (pc : Nat) (ls : ML) (st : List MV) (h : MH), m_free D q = true → m_run xs L n d q pc ls st h = m_run ys K n d q pc ls st h := by
  intro n
  induction n with
  | zero => intros; rfl
  | succ n ih =>
    intro D d q pc ls st h hD
    obtain ⟨F, hF1, hF2⟩ := m_free_s hD
    conv => lhs; unfold m_run
    conv => rhs; unfold m_run
    cases hop : m_lk q.2.2.2.2.2 pc with
    | none => rfl
    | some op =>
      have hop2 := List.all_eq_true.mp hF2 _ (m_lk_mem hop)
      dsimp only at hop2
      dsimp only
      split
      · rfl
      · rfl
      · rfl
      · rfl
      · exact ih D _ _ _ _ _ _ hD
      · split
        · split
          · exact ih D _ _ _ _ _ _ hD
          · exact ih D _ _ _ _ _ _ hD
        · rfl
      · split
        · split
          · exact ih D _ _ _ _ _ _ hD
          · exact ih D _ _ _ _ _ _ hD
        · rfl
      · split
        · split
          · exact ih D _ _ _ _ _ _ hD
          · exact ih D _ _ _ _ _ _ hD
        · rfl
      · split
        · rw [m_swi_t, m_swi_t]
          exact ih D _ _ _ _ _ _ hD
        · rfl
      · split
        · rw [m_lsw_t, m_lsw_t]
          exact ih D _ _ _ _ _ _ hD
        · rfl
      · split
        · rename_i k hk
          split
          · rename_i hq
            split
            · obtain ⟨D2, hD2⟩ := hF1 _ (by simp only [m_fop, hk, hq] at hop2; exact hop2)
              rw [ih D2 _ _ _ _ _ _ hD2, ih D _ _ _ _ _ _ hD]
            · rfl
          · exact ih D _ _ _ _ _ _ hD
        · rfl
      · split
        · rename_i k hk
          split
          · rename_i hq
            split
            · obtain ⟨D2, hD2⟩ := hF1 _ (by simp only [m_fop, hk, hq] at hop2; exact hop2)
              rw [ih D2 _ _ _ _ _ _ hD2, ih D _ _ _ _ _ _ hD]
            · rfl
          · exact ih D _ _ _ _ _ _ hD
        · rfl
      · split
        · rename_i k hk
          split
          · rename_i hq
            split
            · obtain ⟨D2, hD2⟩ := hF1 _ (by simp only [m_fop, hk, hq] at hop2; exact hop2)
              rw [ih D2 _ _ _ _ _ _ hD2, ih D _ _ _ _ _ _ hD]
            · rfl
          · exact ih D _ _ _ _ _ _ hD
        · rfl
      · rw [m_ex_free (ys := ys) (K := K) (xs := xs) (L := L) (fun z => by subst z; cases hop2) (fun z => by subst z; cases hop2)]
        exact ih D _ _ _ _ _ _ hD
/-- a run of such a method, whatever the script is -/
theorem RN.of_free {xs : Int → Int} {L : Int} {n D d : Nat} {q : MI} {as : List MV} {h : MH} {R : MR} (hD : m_free D q = true) (hr : ∀ ls : ML, ls.length = q.2.2.2.1 → Kn (lvE 0 as) ls → m_run (fun _ => 0) 0 n d q 0 ls [] h = R) (hok : m_ok R.2 = true) : RN xs L q d 0 (lvE 0 as) [] h R := by
  intro ls hl H
  exact ⟨n, m_run_le (by rw [m_free_run n D d q 0 ls [] h hD]; exact hr ls hl H) hok⟩
