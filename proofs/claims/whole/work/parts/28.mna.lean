/-! A ROW OF ROWS -/
theorem k8_all : (List.range 15).all (fun own => (m_P own).2.2.all (fun q => !(Nat.beq q.2 8) || t_in (.classLink (Rn own) q.1 ("[" ++ (FieldType.array .int).toString)))) = true := by decide +kernel
theorem k8_use {own i : Nat} (h : m_l (m_P own).2.2 i = some 8) : Jvm.Cond.classLink (Rn own) i ("[" ++ (FieldType.array .int).toString) ∈ tb_w := by
  by_cases h16 : own < 15
  · have h1 := List.all_eq_true.mp (List.all_eq_true.mp k8_all own (List.mem_range.mpr h16)) _ (m_l_mem h)
    simp only [Bool.or_eq_true, Bool.not_eq_true'] at h1
    rcases h1 with h1 | h1
    · cases h1
    · exact t_in_ok h1
  · match own, h16 with
    | n + 15, _ => cases h
    | 0, z | 1, z | 2, z | 3, z | 4, z | 5, z | 6, z | 7, z | 8, z | 9, z | 10, z | 11, z | 12, z | 13, z | 14, z => exact absurd (by decide) z
theorem outer_arr (cA : ClassId) (N h0 : Nat) : Jvm.Free.Multi.outerC cA N h0 N = vp_cell cA (N, .inr (.inr (.inr (.inr (fun j => some (h0 + 1 + j)))))) := by
  have key : ∀ i : Nat, Jvm.Free.Multi.outerC cA N h0 i = { cls := cA, slots := (Jvm.Free.Multi.outerC cA N h0 i).slots, vm := .none } := by
    intro i
    induction i with
    | zero => rfl
    | succ i ih =>
      show (Jvm.Free.Multi.outerC cA N h0 i).setSlot i _ = _
      rw [ih]
      rfl
  rw [key N]
  show Cell.mk _ _ _ _ _ = Cell.mk _ _ _ _ _
  congr 1
  apply Array.ext
  · rw [(Jvm.Free.Multi.outerC_facts cA N h0 N).2.2]
    simp
  · intro j h1 h2
    have hj : j < N := by rw [(Jvm.Free.Multi.outerC_facts cA N h0 N).2.2] at h1; exact h1
    have h3 := Jvm.Free.Multi.outerC_slot cA N h0 N j hj
    rw [if_pos hj, Array.getElem?_eq_getElem h1] at h3
    rw [Option.some.inj h3]
    simp [va_rf]
theorem inner_arr (cA : ClassId) (M : Nat) : Jvm.Free.Multi.innerC cA M (.int 0) = vp_cell cA (M, .inl (fun _ => 0)) := by
  show Cell.mk _ _ _ _ _ = Cell.mk _ _ _ _ _
  congr 1
  apply Array.ext
  · simp
  · intro j h1 h2
    simp
section GoM2
variable {p : Program} {l : Launch} {e : Env} {R : Room} {s : State} {m : MethodId} {args : Array Value} {below : List Frame} {meth : Method} {c : Code} {Q : State → Prop} {cc : ByteArray} {w0 : va_W} {D : va_G} {A : Nat → Prop} {sA : Nat → Nat} {b nL zc zs : Nat} {q : MI}
theorem go_mna (C : Cx p s m args meth c cc A q) {pc i : Nat} {ls : ML} {r : List MV} {h : MH} {n k : Int} (hO : va_AOA .int s) (hl : m_l (m_P q.1).2.2 i = some 8) (hdg : decode cc pc = .ok (.multianewarray i 2, 4)) (hn : m_sm n = true) (hk : m_sm k = true)
    (hr1 : (m_al2 h n k).1.1 ≤ zc + R.cells) (hr2 : (m_al2 h n k).1.2.1 ≤ zs + R.slots)
    (kk : Go p l e R s m args below meth c Q w0 D A sA b nL zc zs (m_nx pc 4 ls (.inr (.inr h.1.1) :: r) (m_al2 h n k))) : Go p l e R s m args below meth c Q w0 D A sA b nL zc zs (pc, ls, .inl k :: .inl n :: r, h) := by
  intro H locs cells slots ws tys lsR stR hW hS hc hs hL hSt
  dsimp only at hW hc hs hL hSt
  obtain ⟨v1, r1, rfl, hv1, h1⟩ := RS.cons hSt
  obtain ⟨v2, r2, rfl, hv2, h2⟩ := RS.cons h1
  obtain ⟨nk, rfl, rfl⟩ := hv1.int
  obtain ⟨nn, rfl, rfl⟩ := hv2.int
  obtain ⟨hx, hb, hml, hown, hts, hA, -⟩ := C
  simp only [m_sm, Bool.and_eq_true, decide_eq_true_eq] at hn hk
  have hz0 : (0 : Int32).toInt = 0 := rfl
  have en : nn.toNatClampNeg = nn.toInt.toNat := rfl
  have ek : nk.toNatClampNeg = nk.toInt.toNat := rfl
  have hr1' : h.1.1 + 1 + nn.toInt.toNat ≤ zc + R.cells := hr1
  have hr2' : h.1.2.1 + nn.toInt.toNat + nn.toInt.toNat * nk.toInt.toNat ≤ zs + R.slots := hr2
  intro T hT X
  subst hb
  obtain ⟨vm₁, cA, comp, hW1, hfA, hfC, hOc, hIc, X1, step⟩ := X.multianewarray2F (ty := .int) hx hown (hts _ (k8_use hl)) (hO.use) (hts _ (show Jvm.Cond.arrayClass .int ∈ tb_w from na_int)) (g := F0 m pc lsR (.int nk :: .int nn :: r2)) rfl hdg rfl (fun z => by have := m_lt32.mp z; omega) (fun z => by have := m_lt32.mp z; omega) (by omega) (by show _ * 4 ≤ _; omega) (by omega) rfl rfl (by rw [en]; omega) (by rw [en, ek]; omega)
  obtain ⟨N, hN⟩ : ∃ N : Nat, nn.toNatClampNeg = N := ⟨_, rfl⟩
  obtain ⟨M, hM⟩ : ∃ M : Nat, nk.toNatClampNeg = M := ⟨_, rfl⟩
  rw [hN, hM] at X1 step
  rw [en] at hN
  rw [ek] at hM
  obtain ⟨F, hF⟩ : ∃ F : State, Jvm.Free.Multi.fill (T.setVm vm₁) cA comp N M (defaultValue .int) N = F := ⟨_, rfl⟩
  have hTs : (T.setVm vm₁).heap = H := hT
  obtain ⟨f1, f2, -, -⟩ := Jvm.Free.Multi.fill_facts (T.setVm vm₁) cA comp N M (defaultValue .int) N
  have f3 : ∀ a : Nat, a < H.size → F.heap[a]? = H[a]? := fun a ha => by
    have := Jvm.Free.Multi.fill_old (T.setVm vm₁) cA comp N M (defaultValue .int) (a := a) (by rw [hTs]; exact ha) N
    rw [hF, hTs] at this
    exact this
  have f4 : ∀ j : Nat, j < N → F.heap[H.size + 1 + j]? = some (vp_cell comp (M, .inl (fun _ => 0))) := fun j hj => by
    have := Jvm.Free.Multi.fill_inner (T.setVm vm₁) cA comp N M (defaultValue .int) N j hj
    rw [hF, hTs] at this
    rw [this]
    exact congrArg some (inner_arr comp M)
  rw [hF, hTs] at f1 f2
  rw [outer_arr] at f2
  rw [hF] at X1 step
  have hlen : ws.length = h.1.1 := hW.2.2.2.1
  -- the new cells
  have hnw : ∀ j : Nat, ((H.size, (.inl (cA, (N, .inr (.inr (.inr (.inr (fun j => some (H.size + 1 + j))))))) : va_E)) :: (List.range N).map (fun j => (H.size + 1 + j, (.inl (comp, (M, .inl (fun _ => 0))) : va_E))))[j]? = if j = 0 then some (H.size, .inl (cA, (N, .inr (.inr (.inr (.inr (fun j => some (H.size + 1 + j)))))))) else if j ≤ N then some (H.size + j, .inl (comp, (M, .inl (fun _ => 0)))) else none := by
    intro j
    cases j with
    | zero => rfl
    | succ j =>
      rw [List.getElem?_cons_succ, List.getElem?_map, if_neg (by omega)]
      by_cases hj : j < N
      · rw [List.getElem?_range hj, if_pos (by omega)]
        show some (H.size + 1 + j, _) = some (H.size + (j + 1), _)
        rw [show H.size + 1 + j = H.size + (j + 1) by omega]
      · rw [if_neg (by omega), List.getElem?_eq_none (by simp; omega)]
        rfl
  obtain ⟨nw, hnwe⟩ : ∃ nw : va_W, nw = ((H.size, (.inl (cA, (N, .inr (.inr (.inr (.inr (fun j => some (H.size + 1 + j))))))) : va_E)) :: (List.range N).map (fun j => (H.size + 1 + j, (.inl (comp, (M, .inl (fun _ => 0))) : va_E)))) := ⟨_, rfl⟩
  rw [← hnwe] at hnw
  have hnl : nw.length = N + 1 := by rw [hnwe]; simp
  have hold : ∀ (k9 : Nat) (x9 : Nat × va_E), ws[k9]? = some x9 → x9.1 < H.size := fun k9 x9 hx9 => (hW.2.1 k9 x9 hx9).lt
  have hnew : ∀ (j : Nat) (x9 : Nat × va_E), nw[j]? = some x9 → x9.1 = H.size + j ∧ va_at D vwCl x9 F.heap := by
    intro j x9 hx9
    rw [hnw] at hx9
    split at hx9
    · cases hx9
      rename_i hj
      subst hj
      exact ⟨rfl, f2⟩
    · rename_i hj
      split at hx9
      · cases hx9
        refine ⟨rfl, ?_⟩
        have := f4 (j - 1) (by omega)
        rw [show H.size + 1 + (j - 1) = H.size + j by omega] at this
        exact this
      · cases hx9
  have hK1 : va_K D vwCl (tys ++ [(cA, .array .int), (comp, .int)]) s := by
    refine va_K.app hW.1 ⟨hW.1.1, fun k9 x9 hx9 => ?_⟩
    match k9, hx9 with
    | 0, hx9 =>
      cases hx9
      exact ⟨fun n9 z9 => ⟨fun k8 h8 => (by cases h8), (hOc 0 0 0).1.2⟩, hfA⟩
    | 1, hx9 =>
      cases hx9
      exact ⟨fun n9 z9 => ⟨fun k8 h8 => (by cases h8), (hIc 0 (.int 0)).1.2⟩, hfC⟩
    | _ + 2, hx9 => cases hx9
  have hP1 : va_P D vwCl (ws ++ nw) F.heap := by
    intro k9 x9 hx9
    by_cases hk9 : k9 < ws.length
    · rw [List.getElem?_append_left hk9] at hx9
      exact (hW.2.1 k9 x9 hx9).kept (f3 _ (hold k9 x9 hx9))
    · rw [List.getElem?_append_right (by omega)] at hx9
      exact (hnew _ x9 hx9).2
  have hD1 : va_D A (ws ++ nw) := by
    refine ⟨fun i9 j9 p9 q9 hi9 hj9 he => ?_, fun k9 x9 hx9 => ?_⟩
    · by_cases hi : i9 < ws.length
      · rw [List.getElem?_append_left hi] at hi9
        by_cases hj : j9 < ws.length
        · rw [List.getElem?_append_left hj] at hj9
          exact hW.2.2.1.1 i9 j9 p9 q9 hi9 hj9 he
        · rw [List.getElem?_append_right (by omega)] at hj9
          have h7 := hold _ _ hi9
          have h8 := (hnew _ _ hj9).1
          omega
      · rw [List.getElem?_append_right (by omega)] at hi9
        by_cases hj : j9 < ws.length
        · rw [List.getElem?_append_left hj] at hj9
          have h7 := hold _ _ hj9
          have h8 := (hnew _ _ hi9).1
          omega
        · rw [List.getElem?_append_right (by omega)] at hj9
          have h7 := (hnew _ _ hi9).1
          have h8 := (hnew _ _ hj9).1
          omega
    · by_cases hk9 : k9 < ws.length
      · rw [List.getElem?_append_left hk9] at hx9
        exact hW.2.2.1.2 k9 x9 hx9
      · rw [List.getElem?_append_right (by omega)] at hx9
        rw [(hnew _ _ hx9).1]
        exact hA _ (Nat.le_trans hS.1 (by omega))
  have hS1 : va_S A s.heap F.heap locs := ⟨Nat.le_trans hS.1 (by omega), fun q9 h8 h9 => (f3 q9 (Nat.lt_of_lt_of_le h8 hS.1)).trans (hS.2.1 q9 h8 h9), hS.2.2⟩
  have hty : ∀ (t : Nat) (x9 : ClassId × FieldType), tys[t]? = some x9 → (tys ++ [(cA, .array .int), (comp, .int)])[t]? = some x9 := fun t x9 ht => by rw [List.getElem?_append_left (List.getElem?_eq_some_iff.mp ht).1]; exact ht
  have hW2 : WR w0 D A sA b (m_al2 h nn.toInt nk.toInt) s F.heap (ws ++ nw) (tys ++ [(cA, .array .int), (comp, .int)]) := by
    obtain ⟨w1, w2, w3, w4, w5, w6, w7⟩ := hW
    refine ⟨hK1, hP1, hD1, by rw [List.length_append, hnl, w4]; show _ = h.1.1 + 1 + nn.toInt.toNat; omega, fun a ha => ?_, fun k' q' e' hk' => ?_, w7.tr va_X2.push⟩
    · have ha' : a < 0 ∨ ((h.1.1 + 1 + nn.toInt.toNat : Nat) : Int) ≤ a := ha
      have := w5 a (by omega)
      show (if a = (h.1.1 : Int) then ((8 : Int), nn.toInt) else if (h.1.1 : Int) < a ∧ a ≤ (h.1.1 : Int) + nn.toInt then (1, nk.toInt) else h.2.1 a).1 = 0
      rw [if_neg (by omega), if_neg (by omega)]
      exact this
    · by_cases hk2 : k' < ws.length
      · rw [List.getElem?_append_left hk2] at hk'
        have e3 : (m_al2 h nn.toInt nk.toInt).2.2 (k' : Int) = h.2.2 (k' : Int) := by
          funext j
          show (if (k' : Int) = (h.1.1 : Int) then _ else if (h.1.1 : Int) < (k' : Int) ∧ _ then _ else h.2.2 k' j) = _
          rw [if_neg (by omega), if_neg (by omega)]
        have e4 : (m_al2 h nn.toInt nk.toInt).2.1 (k' : Int) = h.2.1 (k' : Int) := by
          show (if (k' : Int) = (h.1.1 : Int) then _ else if (h.1.1 : Int) < (k' : Int) ∧ _ then _ else h.2.1 k') = _
          rw [if_neg (by omega), if_neg (by omega)]
        have e5 : m_kd (m_al2 h nn.toInt nk.toInt) (k' : Int) = m_kd h k' := by unfold m_kd; rw [e4]
        have e6 : m_ln (m_al2 h nn.toInt nk.toInt) (k' : Int) = m_ln h k' := by unfold m_ln; rw [e4]
        rw [e3, e5, e6]
        exact (w6 k' q' e' hk').mono va_X2.push hty
      · rw [List.getElem?_append_right (by omega)] at hk'
        obtain ⟨j, hj⟩ : ∃ j : Nat, k' = ws.length + j := ⟨k' - ws.length, by omega⟩
        subst hj
        rw [show ws.length + j - ws.length = j by omega, hnw] at hk'
        split at hk'
        · rename_i hj0
          subst hj0
          cases hk'
          have e4 : (m_al2 h nn.toInt nk.toInt).2.1 ((ws.length + 0 : Nat) : Int) = (8, nn.toInt) := by
            show (if (((ws.length + 0 : Nat) : Int)) = (h.1.1 : Int) then _ else _) = _
            rw [if_pos (by omega)]
          have e5 : m_kd (m_al2 h nn.toInt nk.toInt) ((ws.length + 0 : Nat) : Int) = 8 := by unfold m_kd; rw [e4]
          have e6 : m_ln (m_al2 h nn.toInt nk.toInt) ((ws.length + 0 : Nat) : Int) = nn.toInt := by unfold m_ln; rw [e4]
          rw [e5, e6]
          refine Or.inr (Or.inr (Or.inr (Or.inr (Or.inr (Or.inl ⟨rfl, hn.1, hn.2, cA, tys.length, (fun j => some (H.size + 1 + j)), by rw [hN], by rw [List.getElem?_append_right (Nat.le_refl _)]; simp, fun j hj => ?_⟩)))))
          show RV _ sA b (.inr (.inr (if (((ws.length + 0 : Nat) : Int)) = (h.1.1 : Int) then (h.1.1 : Int) + 1 + (j : Int) else _))) _
          rw [if_pos (by omega)]
          refine Or.inr (Or.inr (Or.inr ⟨ws.length + (j + 1), H.size + (j + 1), .inl (comp, (M, .inl (fun _ => 0))), by omega, ?_, by show Value.ref (H.size + 1 + j) = _; rw [show H.size + 1 + j = H.size + (j + 1) by omega]⟩))
          rw [List.getElem?_append_right (by omega), show ws.length + (j + 1) - ws.length = j + 1 by omega, hnw, if_neg (by omega), if_pos (by omega)]
        · rename_i hj0
          split at hk'
          · rename_i hjN
            cases hk'
            have hc1 : ¬ (((ws.length + j : Nat) : Int)) = (h.1.1 : Int) := by omega
            have hc2 : (h.1.1 : Int) < ((ws.length + j : Nat) : Int) ∧ ((ws.length + j : Nat) : Int) ≤ (h.1.1 : Int) + nn.toInt := by omega
            have e4 : (m_al2 h nn.toInt nk.toInt).2.1 ((ws.length + j : Nat) : Int) = (1, nk.toInt) := by
              show (if (((ws.length + j : Nat) : Int)) = (h.1.1 : Int) then _ else if _ then _ else _) = _
              rw [if_neg hc1, if_pos hc2]
            have e5 : m_kd (m_al2 h nn.toInt nk.toInt) ((ws.length + j : Nat) : Int) = 1 := by unfold m_kd; rw [e4]
            have e6 : m_ln (m_al2 h nn.toInt nk.toInt) ((ws.length + j : Nat) : Int) = nk.toInt := by unfold m_ln; rw [e4]
            rw [e5, e6]
            refine Or.inl ⟨rfl, hk.1, hk.2, comp, tys.length + 1, (fun _ => 0), by rw [hM], by rw [List.getElem?_append_right (by omega), show tys.length + 1 - tys.length = 1 by omega]; rfl, fun j9 hj9 => ?_⟩
            show (0 : Int32).toInt = (if (((ws.length + j : Nat) : Int)) = (h.1.1 : Int) then _ else if _ then (0 : Int) else _)
            rw [if_neg hc1, if_pos hc2]
            rfl
          · cases hk'
  have hfin := kk F.heap locs (cells + 1 + N) (slots + N + N * M) (ws ++ nw) _ lsR (.ref H.size :: r2) hW2 hS1 (by show cells + 1 + N + zc = h.1.1 + 1 + nn.toInt.toNat; omega) (by show slots + N + N * M + zs = h.1.2.1 + nn.toInt.toNat + nn.toInt.toNat * nk.toInt.toNat; rw [hN, hM]; omega) (hL.mono va_X2.push) ⟨?_, h2.mono va_X2.push⟩
  · obtain ⟨t, a1, b1⟩ := hfin F rfl X1
    refine ⟨t, step t ?_, b1⟩
    rw [hT]
    exact a1
  · refine Or.inr (Or.inr (Or.inr ⟨ws.length, H.size, .inl (cA, (N, .inr (.inr (.inr (.inr (fun j => some (H.size + 1 + j))))))), by rw [hlen], ?_, rfl⟩))
    rw [List.getElem?_append_right (Nat.le_refl _), Nat.sub_self, hnw, if_pos rfl]
end GoM2
