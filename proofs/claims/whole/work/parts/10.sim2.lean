theorem m_kill_len (ls : ML) (j : Nat) : (m_kill ls j).length = ls.length := by
  unfold m_kill
  split <;> simp
theorem m_st_len (ls : ML) (i : Nat) (v : MV) : (m_st ls i v).length = ls.length := by
  unfold m_st
  split <;> simp [m_kill_len]
/-- what is left in the locals behind a store -/
theorem m_st_gl {ls : ML} {i : Nat} {v x : MV} {j : Nat} (h : m_gl (m_st ls i v) j = some x) : (j = i ∧ x = v) ∨ (j ≠ i ∧ m_gl ls j = some x ∧ (j + 1 = i → ∀ y, x ≠ .inr (.inl y))) := by
  unfold m_st at h
  split at h
  · rw [m_gl_set] at h
    split at h
    · rename_i hc
      left
      exact ⟨by omega, by cases h; rfl⟩
    · rename_i hc
      right
      have hl := m_gl_len _ _ _ h
      refine ⟨by omega, h, by omega⟩
  · rename_i j0
    rw [m_gl_set] at h
    split at h
    · left
      rename_i hc
      exact ⟨by omega, by cases h; rfl⟩
    · rename_i hc
      right
      rw [m_kill_len] at hc
      unfold m_kill at h
      split at h
      · rename_i z hz
        rw [m_gl_set] at h
        split at h
        · cases h
        · rename_i hc2
          have hl := m_gl_len _ _ _ h
          refine ⟨by omega, h, fun e => ?_⟩
          exfalso
          apply hc2
          omega
      · rename_i hz
        have hl := m_gl_len _ _ _ h
        refine ⟨by omega, h, fun e y hy => ?_⟩
        have : j = j0 := by omega
        subst this
        subst hy
        exact hz _ h
theorem RV.cat {ws : va_W} {sA : Nat → Nat} {b : Nat} {x : MV} {v : Value} (h : RV ws sA b x v) : (v.category = 2 → ∃ y, x = .inr (.inl y)) ∧ ((∀ y, x ≠ .inr (.inl y)) → v.category = 1) := by
  rcases x with x | x | a
  · obtain ⟨n, rfl, -⟩ := h
    exact ⟨fun q => by simp [Value.category] at q, fun _ => rfl⟩
  · obtain ⟨n, rfl, -⟩ := h
    exact ⟨fun _ => ⟨x, rfl⟩, fun q => absurd rfl (q x)⟩
  · rcases h with ⟨-, rfl⟩ | ⟨-, rfl⟩ | ⟨j, -, -, rfl⟩ | ⟨k, q, e, -, -, rfl⟩
    · exact ⟨fun q => by simp [Value.category] at q, fun _ => rfl⟩
    · exact ⟨fun q => by simp [Value.category] at q, fun _ => rfl⟩
    · exact ⟨fun q => by simp [Value.category] at q, fun _ => rfl⟩
    · exact ⟨fun q => by simp [Value.category] at q, fun _ => rfl⟩
theorem RLo.st1 {ws : va_W} {sA : Nat → Nat} {b : Nat} {ls : ML} {lv : List (Nat × Value)} (h2 : ∀ (i : Nat) (x : MV), m_gl ls i = some x → ∃ v : Value, (i, v) ∈ lv ∧ RV ws sA b x v) {i : Nat} {x : MV} {v : Value} (hv : RV ws sA b x v) :
    ∀ (j : Nat) (y : MV), m_gl (m_st ls i x) j = some y → ∃ w : Value, (j, w) ∈ (i, v) :: lv.filter (fun q => !(q.1 == i) && !(q.1 + 1 == i && q.2.category == 2)) ∧ RV ws sA b y w := by
  intro j y hj
  rcases m_st_gl hj with ⟨rfl, rfl⟩ | ⟨h3, h4, h5⟩
  · exact ⟨v, List.mem_cons_self, hv⟩
  · obtain ⟨w, h6, h7⟩ := h2 j y h4
    refine ⟨w, List.mem_cons_of_mem _ (List.mem_filter.mpr ⟨h6, ?_⟩), h7⟩
    have : ¬ (j + 1 = i ∧ w.category = 2) := fun ⟨q1, q2⟩ => by
      obtain ⟨y', e'⟩ := h7.cat.1 q2
      exact h5 q1 y' e'
    simp only [Bool.and_eq_true, Bool.not_eq_true', beq_eq_false_iff_ne, ne_eq, Bool.and_eq_false_iff]
    refine ⟨h3, ?_⟩
    by_cases q1 : j + 1 = i
    · right
      exact fun q2 => this ⟨q1, q2⟩
    · left
      exact q1
section GoT
variable {p : Program} {l : Launch} {e : Env} {R : Room} {s : State} {m : MethodId} {args : Array Value} {below : List Frame} {meth : Method} {c : Code} {Q : State → Prop} {cc : ByteArray} {w0 : va_W} {D : va_G} {A : Nat → Prop} {sA : Nat → Nat} {b nL zc zs : Nat}
theorem go_sto1 {ty len i pc : Nat} {ls : ML} {st : List MV} {h : MH} (hty : ty ≠ 1)
    (row : ∀ (H : Heap) (locs : List Loc) (cells slots : Nat) (lsR : Array Slot) (rest : List Value) (v : Value) (x : MV) (lv : List (Nat × Value)), lv_has lsR nL lv → i < nL → (match x with | .inl _ => ty = 0 | .inr (.inl _) => ty = 1 | .inr (.inr _) => ty = 2) → (∃ ws : va_W, RV ws sA b x v) → (∀ lsR' : Array Slot, lv_has lsR' nL ((i, v) :: lv.filter (fun q => !(q.1 == i) && !(q.1 + 1 == i && q.2.category == 2))) → W p l e R s m args below meth c H locs cells slots Q (F0 m (pc + len) lsR' rest)) → W p l e R s m args below meth c H locs cells slots Q (F0 m pc lsR (v :: rest)))
    (hok : m_ok (m_sto ty len i pc ls st h).2.2.2 = true) (k : Go p l e R s m args below meth c Q w0 D A sA b nL zc zs (m_sto ty len i pc ls st h)) : Go p l e R s m args below meth c Q w0 D A sA b nL zc zs (pc, ls, st, h) := by
  intro H locs cells slots ws tys lsR stR hW hS hc hs hL hSt
  dsimp only at hW hc hs hL hSt
  unfold m_sto at hok k
  split at hok
  · rename_i v0 r
    obtain ⟨v, r1, rfl, hv, h1⟩ := RS.cons hSt
    obtain ⟨hl0, lv, hl1, hl2⟩ := hL
    split at hok
    · have hi := Nat.blt_eq.mp (m_chk_ok hok).1
      refine row _ _ _ _ _ _ v _ lv hl1 (by omega) rfl ⟨ws, hv⟩ (fun lsR' h' => ?_)
      exact k H locs cells slots ws tys lsR' _ hW hS hc hs ⟨(m_st_len _ _ _).trans hl0, _, h', RLo.st1 hl2 hv⟩ h1
    · exact absurd rfl hty
    · have hi := Nat.blt_eq.mp (m_chk_ok hok).1
      refine row _ _ _ _ _ _ v _ lv hl1 (by omega) rfl ⟨ws, hv⟩ (fun lsR' h' => ?_)
      exact k H locs cells slots ws tys lsR' _ hW hS hc hs ⟨(m_st_len _ _ _).trans hl0, _, h', RLo.st1 hl2 hv⟩ h1
    · exact (m_no_ok hok).elim
  · exact (m_no_ok hok).elim
theorem go_sto2 {len i pc : Nat} {ls : ML} {st : List MV} {h : MH}
    (row : ∀ (H : Heap) (locs : List Loc) (cells slots : Nat) (lsR : Array Slot) (rest : List Value) (x : Int64) (lv : List (Nat × Value)), lv_has lsR nL lv → i + 1 < nL → (∀ lsR' : Array Slot, lv_has lsR' nL ((i, .long x) :: lv.filter (fun q => !(q.1 == i) && (!(q.1 == i + 1) && !(q.1 + 1 == i && q.2.category == 2)))) → W p l e R s m args below meth c H locs cells slots Q (F0 m (pc + len) lsR' rest)) → W p l e R s m args below meth c H locs cells slots Q (F0 m pc lsR (.long x :: rest)))
    (hok : m_ok (m_sto 1 len i pc ls st h).2.2.2 = true) (k : Go p l e R s m args below meth c Q w0 D A sA b nL zc zs (m_sto 1 len i pc ls st h)) : Go p l e R s m args below meth c Q w0 D A sA b nL zc zs (pc, ls, st, h) := by
  intro H locs cells slots ws tys lsR stR hW hS hc hs hL hSt
  dsimp only at hW hc hs hL hSt
  cases st with
  | nil => exact (m_no_ok hok).elim
  | cons v0 r =>
    obtain ⟨v, r1, rfl, hv, h1⟩ := RS.cons hSt
    obtain ⟨hl0, lv, hl1, hl2⟩ := hL
    rcases v0 with x | x | x
    · exact (m_no_ok hok).elim
    · have hi := Nat.blt_eq.mp (m_chk_ok (h := h) (t := Nat.blt (i + 1) ls.length) hok).1
      obtain ⟨n, rfl, hn⟩ := hv.lng
      refine row _ _ _ _ _ _ n lv hl1 (by omega) (fun lsR' h' => ?_)
      refine k H locs cells slots ws tys lsR' r1 hW hS hc hs ⟨?_, _, h', fun j y hj => ?_⟩ h1
      · show ((m_st ls i (.inr (.inl x))).set (i + 1) none).length = nL
        rw [List.length_set, m_st_len, hl0]
      · have hj : m_gl ((m_st ls i (.inr (.inl x))).set (i + 1) none) j = some y := hj
        rw [m_gl_set] at hj
        split at hj
        · cases hj
        · rename_i hc2
          have hjl := m_gl_len _ _ _ hj
          have hj1 : j ≠ i + 1 := by rw [m_st_len] at hc2 hjl; omega
          obtain ⟨w, h6, h7⟩ := RLo.st1 hl2 (show RV ws sA b (.inr (.inl _)) (.long n) from ⟨n, rfl, hn⟩) j y hj
          refine ⟨w, ?_, h7⟩
          rcases List.mem_cons.mp h6 with h6 | h6
          · rw [h6]; exact List.mem_cons_self
          · refine List.mem_cons_of_mem _ (List.mem_filter.mpr ⟨(List.mem_filter.mp h6).1, ?_⟩)
            have h8 := (List.mem_filter.mp h6).2
            simp only [Bool.and_eq_true, Bool.not_eq_true', beq_eq_false_iff_ne, ne_eq] at h8 ⊢
            exact ⟨h8.1, hj1, h8.2⟩
    · exact (m_no_ok hok).elim
end GoT
