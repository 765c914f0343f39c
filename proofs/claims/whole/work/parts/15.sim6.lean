/-- what a class entry of the pool says: objects -/
def n_ok (own : Nat) (q : Nat × Nat) : Bool := match vwCl[q.2 - 100]? with
  | some r => Nat.blt q.2 100 || (t_in (.classLink (Rn own) q.1 r.1) && (t_in (.instantiable r.1 r.2.2) && t_in (.initialized r.1)))
  | none => Nat.blt q.2 100
/-- arrays of objects -/
def a_ok (own : Nat) (q : Nat × Nat) : Bool := match q.2 with
  | 5 => t_in (.classLink (Rn own) (q.1 - 1000) RX5) && Nat.ble 1000 q.1
  | 6 => t_in (.classLink (Rn own) (q.1 - 1000) RX2) && Nat.ble 1000 q.1
  | 7 => t_in (.classLink (Rn own) (q.1 - 1000) RX10) && Nat.ble 1000 q.1
  | _ => true
theorem n_all : (List.range 15).all (fun own => (m_P own).2.2.all (fun q => n_ok own q && a_ok own q)) = true := by decide +kernel
theorem n_use (own : Nat) : (m_P own).2.2.all (fun q => n_ok own q && a_ok own q) = true := by
  by_cases h : own < 15
  · exact List.all_eq_true.mp n_all own (List.mem_range.mpr h)
  · match own, h with
    | n + 15, _ => rfl
    | 0, h | 1, h | 2, h | 3, h | 4, h | 5, h | 6, h | 7, h | 8, h | 9, h | 10, h | 11, h | 12, h | 13, h | 14, h => exact absurd (by decide) h
theorem m_ft_dv {ci : Nat} {r : vw_C} (h : vwCl[ci]? = some r) : ∀ j, j < r.2.2 → (t_ty (r.2.1 j).2.2.1 ((m_ft ci).getD j 0) = true ∧ parseFieldDescriptor (r.2.1 j).2.2.1 = some (m_ty ci j)) := by
  have h1 := (cl_all h).2.2.2
  unfold c_ok at h1
  simp only [Bool.and_eq_true, decide_eq_true_eq] at h1
  intro j hj
  have h2 := List.all_eq_true.mp h1.2.2 j (List.mem_range.mpr hj)
  simp only [Bool.and_eq_true, decide_eq_true_eq] at h2
  exact ⟨h2.2, h2.1⟩
theorem m_ft_len {ci : Nat} {r : vw_C} (h : vwCl[ci]? = some r) : (m_ft ci).length = r.2.2 := by
  have h1 := (cl_all h).2.2.2
  unfold c_ok at h1
  simp only [Bool.and_eq_true, decide_eq_true_eq] at h1
  exact h1.2.1
/-- the first value of a field -/
theorem m_dv {d : String} {ty : Nat} {fty : FieldType} {ws : va_W} {sA : Nat → Nat} {b : Nat} (h : t_ty d ty = true) (hf : parseFieldDescriptor d = some fty) : RV ws sA b (m_mk ty (bif Nat.beq ty 2 then -1 else 0)) (defaultValue fty) := by
  unfold t_ty at h
  rw [hf] at h
  cases fty with
  | int => have := Nat.eq_of_beq_eq_true h; subst this; exact ⟨0, rfl, rfl⟩
  | long => have := Nat.eq_of_beq_eq_true h; subst this; exact ⟨0, rfl, rfl⟩
  | object C => have := Nat.eq_of_beq_eq_true h; subst this; exact Or.inl ⟨rfl, rfl⟩
  | array t => have := Nat.eq_of_beq_eq_true h; subst this; exact Or.inl ⟨rfl, rfl⟩
  | _ => cases h
section GoK
variable {p : Program} {l : Launch} {e : Env} {R : Room} {s : State} {m : MethodId} {args : Array Value} {below : List Frame} {meth : Method} {c : Code} {Q : State → Prop} {cc : ByteArray} {w0 : va_W} {D : va_G} {A : Nat → Prop} {sA : Nat → Nat} {b nL zc zs : Nat} {q : MI}
theorem go_new {pc i : Nat} {ls : ML} {r : List MV} {h : MH} {ci : Nat} (C : Cx p s m args meth c cc A q) (hdg : decode cc pc = .ok (.new i, 3)) (hp : m_l (m_P q.1).2.2 i = some (100 + ci)) (hci : ∃ rr, vwCl[ci]? = some rr)
    (hr1 : h.1.1 + 1 ≤ zc + R.cells) (hr2 : h.1.2.1 + (m_ft ci).length ≤ zs + R.slots)
    (k : Go p l e R s m args below meth c Q w0 D A sA b nL zc zs (m_nx pc 3 ls (.inr (.inr h.1.1) :: r) (m_al h ((100 + ci : Nat) : Int) 0 (m_ft ci).length (fun j => bif Nat.beq ((m_ft ci).getD j.toNat 0) 2 then -1 else 0)))) : Go p l e R s m args below meth c Q w0 D A sA b nL zc zs (pc, ls, r, h) := by
  intro H locs cells slots ws tys lsR stR hW hS hc hs hL hSt
  dsimp only at hW hc hs hL hSt
  obtain ⟨rr, hrr⟩ := hci
  have h1 := List.all_eq_true.mp (n_use q.1) _ (m_l_mem hp)
  simp only [Bool.and_eq_true] at h1
  have h2 := h1.1
  unfold n_ok at h2
  dsimp only at h2
  rw [show 100 + ci - 100 = ci by omega, hrr] at h2
  simp only [Bool.or_eq_true, Bool.and_eq_true] at h2
  have h3 := h2.resolve_left (fun z => by have := Nat.blt_eq.mp z; omega)
  have hlf := m_ft_len hrr
  have hdv := m_ft_dv hrr
  obtain ⟨u1, u2, u3, -⟩ := cl_all hrr
  obtain ⟨C0, T0, N0⟩ := rr
  obtain ⟨hx, hb, hml, hown, hts, hA, -⟩ := C
  dsimp only at hlf hdv u1 u2 u3 h3
  have hlen : ws.length = h.1.1 := hW.2.2.2.1
  refine va_new (D := D) (cl := vwCl) (ci := ci) (fs := (List.range N0).map (fun j => defaultValue (m_ty ci j))) (C := C0) (T := T0) (N := N0) hx hb hts u1 (m_ty ci) u3 hown (hts _ (t_in_ok h3.1)) (hts _ (t_in_ok h3.2.1)) (hts _ (t_in_ok h3.2.2)) hW.1 hW.2.1 hW.2.2.1 hS hA hrr (fun j hj => by simp [vp_V, hj]) (by omega) (by omega) hdg (fun qn H1 hP1 hD1 hS1 => ?_)
  refine k H1 locs _ _ _ _ lsR _ (hW.new hW.1 (fun _ _ z => z) hP1 hD1 ?_) hS1 (by show cells + 1 + zc = h.1.1 + 1; omega) (by show slots + N0 + zs = h.1.2.1 + (m_ft ci).length; omega) (hL.mono va_X2.push) ⟨?_, hSt.mono va_X2.push⟩
  · refine Or.inr (Or.inr (Or.inr (Or.inr (Or.inr (Or.inr ⟨ci, _, by omega, rfl, by simp [hlf], fun j ty hj => ?_⟩)))))
    have hjl : j < N0 := by rw [← hlf]; exact (List.getElem?_eq_some_iff.mp hj).1
    refine ⟨defaultValue (m_ty ci j), by simp [hjl], ?_⟩
    have hg : (m_ft ci).getD j 0 = ty := by rw [List.getD_eq_getElem?_getD, hj]; rfl
    obtain ⟨d1, d2⟩ := hdv j hjl
    rw [hg] at d1
    have := m_dv (ws := ws ++ [(qn, .inr (ci, (List.range N0).map (fun j => defaultValue (m_ty ci j))))]) (sA := sA) (b := b) d1 d2
    show RV _ _ _ (m_mk ty (bif Nat.beq ((m_ft ci).getD ((j : Int)).toNat 0) 2 then -1 else 0)) _
    rw [Int.toNat_natCast, hg]
    exact this
  · exact Or.inr (Or.inr (Or.inr ⟨ws.length, qn, _, by rw [hlen], by rw [List.getElem?_append_right (Nat.le_refl _)]; simp; rfl, rfl⟩))
theorem go_newq {pc i kd : Nat} {ls : ML} {r : List MV} {h : MH} {n : Int} (C : Cx p s m args meth c cc A q) (hO : va_AO RX5 s ∧ va_AO RX2 s ∧ va_AO RX10 s) (hdg : decode cc pc = .ok (.anewarray i, 3)) (hp : m_l (m_P q.1).2.2 (i + 1000) = some kd) (hn : m_sm n = true) (hkd : 5 ≤ kd ∧ kd ≤ 7)
    (hr1 : h.1.1 + 1 ≤ zc + R.cells) (hr2 : h.1.2.1 + n.toNat ≤ zs + R.slots)
    (k : Go p l e R s m args below meth c Q w0 D A sA b nL zc zs (m_nx pc 3 ls (.inr (.inr h.1.1) :: r) (m_al h kd n n.toNat (fun _ => -1)))) : Go p l e R s m args below meth c Q w0 D A sA b nL zc zs (pc, ls, .inl n :: r, h) := by
  intro H locs cells slots ws tys lsR stR hW hS hc hs hL hSt
  dsimp only at hW hc hs hL hSt
  obtain ⟨v2, r2, rfl, hv2, h2⟩ := RS.cons hSt
  obtain ⟨nn, rfl, rfl⟩ := hv2.int
  obtain ⟨hx, hb, hml, hown, hts, hA, -⟩ := C
  simp only [m_sm, Bool.and_eq_true, decide_eq_true_eq] at hn
  have h1 := List.all_eq_true.mp (n_use q.1) _ (m_l_mem hp)
  simp only [Bool.and_eq_true] at h1
  have h3 : ∃ C0 : String, Jvm.Cond.classLink (Rn q.1) i C0 ∈ tb_w ∧ va_AO C0 s ∧ C0 = (if (kd : Int) = 5 then RX5 else if (kd : Int) = 6 then RX2 else RX10) := by
    have h4 := h1.2
    unfold a_ok at h4
    dsimp only at h4
    have e1 : kd = 5 ∨ kd = 6 ∨ kd = 7 := by omega
    rcases e1 with rfl | rfl | rfl
    · simp only [Bool.and_eq_true] at h4
      rw [Nat.add_sub_cancel] at h4
      exact ⟨RX5, t_in_ok h4.1, hO.1, rfl⟩
    · simp only [Bool.and_eq_true] at h4
      rw [Nat.add_sub_cancel] at h4
      exact ⟨RX2, t_in_ok h4.1, hO.2.1, rfl⟩
    · simp only [Bool.and_eq_true] at h4
      rw [Nat.add_sub_cancel] at h4
      exact ⟨RX10, t_in_ok h4.1, hO.2.2, rfl⟩
  obtain ⟨C0, c1, c2, c3⟩ := h3
  have hlen : ws.length = h.1.1 := hW.2.2.2.1
  refine va_newq (D := D) (cl := vwCl) (N' := nn.toInt.toNat) hx hb hown (hts _ c1) c2 hW.1 hW.2.1 hW.2.2.1 hS hA (fun z => by rw [Int32.lt_iff_toInt_lt] at z; have : (0 : Int32).toInt = 0 := rfl; omega) rfl (by omega) (by omega) (by omega) hdg (fun qn cA H1 hK1 hP1 hD1 hS1 => ?_)
  refine k H1 locs _ _ _ _ lsR _ (hW.new hK1 (fun t q ht => by rw [List.getElem?_append_left (List.getElem?_eq_some_iff.mp ht).1]; exact ht) hP1 hD1 ?_) hS1 (by show cells + 1 + zc = h.1.1 + 1; omega) (by show slots + nn.toInt.toNat + zs = h.1.2.1 + nn.toInt.toNat; omega) (hL.mono va_X2.push) ⟨?_, h2.mono va_X2.push⟩
  · refine Or.inr (Or.inr (Or.inr (Or.inr (Or.inl ⟨by omega, hn.1, hn.2, cA, tys.length, _, rfl, ?_, fun j hj => Or.inl ⟨rfl, rfl⟩⟩))))
    rw [← c3, List.getElem?_append_right (Nat.le_refl _)]
    simp
  · exact Or.inr (Or.inr (Or.inr ⟨ws.length, qn, _, by rw [hlen], by rw [List.getElem?_append_right (Nat.le_refl _)]; simp; rfl, rfl⟩))
end GoK
