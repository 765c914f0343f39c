theorem m_l_mem {α : Type} : ∀ {L : List (Nat × α)} {k : Nat} {v : α}, m_l L k = some v → (k, v) ∈ L
  | [], k, v, h => by cases h
  | q :: r, k, v, h => by
    unfold m_l at h
    cases hb : Nat.beq q.1 k with
    | true =>
      rw [hb] at h
      have h1 : some q.2 = some v := h
      cases h1
      have := Nat.eq_of_beq_eq_true hb
      subst this
      exact List.mem_cons_self
    | false =>
      rw [hb] at h
      exact List.mem_cons_of_mem _ (m_l_mem h)
/-- what a field's entry in the pool says -/
theorem f_use {own i ci k ty : Nat} {fn : Bool} (h : m_l (m_P own).1 i = some (ci, k, ty, fn)) : ∃ r : vw_C, vwCl[ci]? = some r ∧ k < r.2.2 ∧ (r.2.1 k).1 = r.1 ∧ (r.2.1 k).2.2.2 = fn ∧ t_ty (r.2.1 k).2.2.1 ty = true ∧ (m_ft ci)[k]? = some ty ∧ (m_ft ci).length = r.2.2 ∧ Jvm.Cond.fieldLink (Rn own) i r.1 (r.2.1 k).2.1 (r.2.1 k).2.2.1 ∈ tb_w := by
  have h1 := List.all_eq_true.mp (f_all own) _ (m_l_mem h)
  unfold f_ok at h1
  dsimp only at h1
  cases hr : vwCl[ci]? with
  | none => rw [hr] at h1; cases h1
  | some r =>
    rw [hr] at h1
    simp only [Bool.and_eq_true, decide_eq_true_eq] at h1
    obtain ⟨a1, a2, a3, a4, a5, a6, a7⟩ := h1
    exact ⟨r, rfl, Nat.blt_eq.mp a1, a2, a3, a4, a5, a6, t_in_ok a7⟩
/-- the method's own circumstances -/
def Cx (p : Program) (s : State) (m : MethodId) (args : Array Value) (meth : Method) (c : Code) (cc : ByteArray) (A : Nat → Prop) (q : MI) : Prop :=
  p.tables.exec = Jvm.exec ∧ c.code = cc ∧ c.maxLocals = q.2.2.2.1 ∧ s.vm.findClass (Rn q.1) = some m.cls ∧ (∀ w ∈ tb_w, w.before args s = true) ∧ (∀ q, s.heap.size ≤ q → A q) ∧ (q.2.2.2.2.1 = true → meth.name = "<init>") ∧ meth.locks = false
theorem m_is_ok {h : MH} {a k : Int} (e : m_is h a k = true) : m_kd h a = k := by simpa [m_is] using e
theorem m_in_ok {h : MH} {a k i : Int} (e : m_in h a k i = true) : m_kd h a = k ∧ 0 ≤ i ∧ i < m_ln h a := by simpa [m_in] using e
theorem CR.obj {ws : va_W} {sA : Nat → Nat} {b : Nat} {tys : List (ClassId × FieldType)} {k n : Int} {f : Int → Int} {e : va_E} (h : CR ws sA b tys k n f e) {ci : Nat} (hk : k = 100 + (ci : Int)) : ∃ fs : List Value, e = .inr (ci, fs) ∧ fs.length = (m_ft ci).length ∧ ∀ (j ty : Nat), (m_ft ci)[j]? = some ty → ∃ v : Value, fs[j]? = some v ∧ RV ws sA b (m_mk ty (f j)) v := by
  rcases h with ⟨h1, -⟩ | ⟨h1, -⟩ | ⟨h1, -⟩ | ⟨h1, -⟩ | ⟨h1, -⟩ | ⟨h1, -⟩ | ⟨ci', fs, h1, h2, h3, h4⟩
  · omega
  · omega
  · omega
  · omega
  · omega
  · omega
  · have : ci' = ci := by omega
    subst this
    exact ⟨fs, h2, h3, h4⟩
theorem CR.ints {ws : va_W} {sA : Nat → Nat} {b : Nat} {tys : List (ClassId × FieldType)} {k n : Int} {f : Int → Int} {e : va_E} (h : CR ws sA b tys k n f e) (hk : k = 1) : 0 ≤ n ∧ n ≤ 100000 ∧ ∃ (cA : ClassId) (t : Nat) (g : Nat → Int32), e = .inl (cA, n.toNat, .inl g) ∧ tys[t]? = some (cA, .int) ∧ ∀ j : Nat, j < n.toNat → (g j).toInt = f j := by
  rcases h with ⟨h1, h2⟩ | ⟨h1, -⟩ | ⟨h1, -⟩ | ⟨h1, -⟩ | ⟨h1, -⟩ | ⟨h1, -⟩ | ⟨ci', fs, h1, -⟩
  · exact h2
  all_goals omega
theorem CR.longs {ws : va_W} {sA : Nat → Nat} {b : Nat} {tys : List (ClassId × FieldType)} {k n : Int} {f : Int → Int} {e : va_E} (h : CR ws sA b tys k n f e) (hk : k = 2) : 0 ≤ n ∧ n ≤ 100000 ∧ ∃ (cA : ClassId) (t : Nat) (g : Nat → Int64), e = .inl (cA, n.toNat, .inr (.inl g)) ∧ tys[t]? = some (cA, .long) ∧ ∀ j : Nat, j < n.toNat → (g j).toInt = f j := by
  rcases h with ⟨h1, -⟩ | ⟨h1, h2⟩ | ⟨h1, -⟩ | ⟨h1, -⟩ | ⟨h1, -⟩ | ⟨h1, -⟩ | ⟨ci', fs, h1, -⟩
  · omega
  · exact h2
  all_goals omega
theorem CR.bytes {ws : va_W} {sA : Nat → Nat} {b : Nat} {tys : List (ClassId × FieldType)} {k n : Int} {f : Int → Int} {e : va_E} (h : CR ws sA b tys k n f e) (hk : k = 3) : 0 ≤ n ∧ n ≤ 100000 ∧ ∃ (cA : ClassId) (t : Nat) (g : Nat → Int32), e = .inl (cA, n.toNat, .inl g) ∧ tys[t]? = some (cA, .byte) ∧ ∀ j : Nat, j < n.toNat → (g j).toInt = f j := by
  rcases h with ⟨h1, -⟩ | ⟨h1, -⟩ | ⟨h1, h2⟩ | ⟨h1, -⟩ | ⟨h1, -⟩ | ⟨h1, -⟩ | ⟨ci', fs, h1, -⟩
  · omega
  · omega
  · exact h2
  all_goals omega
theorem CR.bools {ws : va_W} {sA : Nat → Nat} {b : Nat} {tys : List (ClassId × FieldType)} {k n : Int} {f : Int → Int} {e : va_E} (h : CR ws sA b tys k n f e) (hk : k = 4) : 0 ≤ n ∧ n ≤ 100000 ∧ ∃ (cA : ClassId) (t : Nat) (g : Nat → Int32), e = .inl (cA, n.toNat, .inl g) ∧ tys[t]? = some (cA, .boolean) ∧ ∀ j : Nat, j < n.toNat → (g j).toInt = f j := by
  rcases h with ⟨h1, -⟩ | ⟨h1, -⟩ | ⟨h1, -⟩ | ⟨h1, h2⟩ | ⟨h1, -⟩ | ⟨h1, -⟩ | ⟨ci', fs, h1, -⟩
  · omega
  · omega
  · omega
  · exact h2
  all_goals omega
theorem CR.refs {ws : va_W} {sA : Nat → Nat} {b : Nat} {tys : List (ClassId × FieldType)} {k n : Int} {f : Int → Int} {e : va_E} (h : CR ws sA b tys k n f e) (hk : k = 5 ∨ k = 6 ∨ k = 7) : 0 ≤ n ∧ n ≤ 100000 ∧ ∃ (cA : ClassId) (t : Nat) (g : Nat → Option Nat), e = .inl (cA, n.toNat, .inr (.inr (.inr (.inr g)))) ∧ tys[t]? = some (cA, .object (if k = 5 then RX5 else if k = 6 then RX2 else RX10)) ∧ ∀ j : Nat, j < n.toNat → RV ws sA b (.inr (.inr (f j))) (va_rf (g j)) := by
  rcases h with ⟨h1, -⟩ | ⟨h1, -⟩ | ⟨h1, -⟩ | ⟨h1, -⟩ | ⟨h1, h2⟩ | ⟨h1, -⟩ | ⟨ci', fs, h1, -⟩
  · omega
  · omega
  · omega
  · omega
  · exact h2
  all_goals omega
theorem m_idx {i : Int32} {n : Int} (h0 : 0 ≤ i.toInt) (h1 : i.toInt < n) : vp_in i n.toNat ∧ (i.toNatClampNeg : Int) = i.toInt ∧ i.toNatClampNeg < n.toNat := by
  have e : (i.toNatClampNeg : Int) = i.toInt := by
    show ((i.toInt.toNat : Nat) : Int) = i.toInt
    omega
  exact ⟨vp_in_iff.mpr ⟨h0, by omega⟩, e, by omega⟩
section GoH
variable {p : Program} {l : Launch} {e : Env} {R : Room} {s : State} {m : MethodId} {args : Array Value} {below : List Frame} {meth : Method} {c : Code} {Q : State → Prop} {cc : ByteArray} {w0 : va_W} {D : va_G} {A : Nat → Prop} {sA : Nat → Nat} {b nL zc zs : Nat} {q : MI}
theorem go_get {i pc : Nat} {ls : ML} {st : List MV} {h : MH} {xs : Int → Int} {L : Int} (C : Cx p s m args meth c cc A q) (hdg : decode cc pc = .ok (.getfield i, 3))
    (hok : m_ok (m_ex (m_P q.1) m_ft q xs L (.getfield i) pc ls st h).2.2.2 = true) (k : Go p l e R s m args below meth c Q w0 D A sA b nL zc zs (m_ex (m_P q.1) m_ft q xs L (.getfield i) pc ls st h)) : Go p l e R s m args below meth c Q w0 D A sA b nL zc zs (pc, ls, st, h) := by
  intro H locs cells slots ws tys lsR stR hW hS hc hs hL hSt
  dsimp only at hW hc hs hL hSt
  simp only [m_ex] at hok k
  split at hok
  · rename_i a r ci k0 ty fn hp
    rw [hp] at k
    obtain ⟨v, r1, rfl, hv, h1⟩ := RS.cons hSt
    have hkd := m_is_ok (m_chk_ok hok).1
    obtain ⟨kk, qa, ee, rfl, hk, hcr⟩ := hW.get (a := a) (by omega)
    obtain ⟨fs, rfl, hfl, hfs⟩ := hcr.obj hkd
    obtain ⟨rr, f1, f2, f3, f4, f5, f6, f7, f8⟩ := f_use hp
    obtain ⟨v9, g1, g2⟩ := hfs k0 ty f6
    have hv := hv.place hk
    subst hv
    obtain ⟨hx, hb, hml, hown, hts, -⟩ := C
    obtain ⟨C0, T0, N0⟩ := rr
    exact va_get (D := D) (cl := vwCl) (ci := ci) (v := v9) (C := C0) (T := T0) (N := N0) (ref := C0) hx hb hts (cl_all f1).1 hown hW.1 hW.2.1 kk hk f1 k0 f2 (hts _ f8) (fun x hx9 => by rw [f3] at hx9; exact hx9) g1 hdg (k H locs cells slots ws tys lsR _ hW hS hc hs hL ⟨g2, h1⟩)
  · exact (m_no_ok hok).elim
theorem go_iald {pc : Nat} {ls : ML} {r : List MV} {h : MH} {i a : Int} (C : Cx p s m args meth c cc A q) (hdg : decode cc pc = .ok (.iaload, 1)) (hok : m_in h a 1 i = true)
    (k : Go p l e R s m args below meth c Q w0 D A sA b nL zc zs (m_nx pc 1 ls (.inl (m_rd h a i) :: r) h)) : Go p l e R s m args below meth c Q w0 D A sA b nL zc zs (pc, ls, .inl i :: .inr (.inr a) :: r, h) := by
  intro H locs cells slots ws tys lsR stR hW hS hc hs hL hSt
  dsimp only at hW hc hs hL hSt
  obtain ⟨v, r1, rfl, hv, h1⟩ := RS.cons hSt
  obtain ⟨v2, r2, rfl, hv2, h2⟩ := RS.cons h1
  obtain ⟨ni, rfl, rfl⟩ := hv.int
  obtain ⟨i1, i2, i3⟩ := m_in_ok hok
  obtain ⟨kk, qa, ee, rfl, hk, hcr⟩ := hW.get (a := a) (by omega)
  have hv2 := hv2.place hk
  subst hv2
  obtain ⟨n0, n1, cA, t, g, rfl, ht, hg⟩ := hcr.ints i1
  obtain ⟨j1, j2, j3⟩ := m_idx i2 i3
  obtain ⟨hx, hb, -⟩ := C
  refine va_iald (D := D) (cl := vwCl) hx hb hW.1 hW.2.1 kk t hk ht j1 hdg (k H locs cells slots ws tys lsR _ hW hS hc hs hL ⟨⟨_, rfl, ?_⟩, h2⟩)
  rw [hg _ j3, j2]
  rfl
theorem go_iast {pc : Nat} {ls : ML} {r : List MV} {h : MH} {i a x : Int} (C : Cx p s m args meth c cc A q) (hdg : decode cc pc = .ok (.iastore, 1)) (hok : m_in h a 1 i = true)
    (k : Go p l e R s m args below meth c Q w0 D A sA b nL zc zs (m_nx pc 1 ls r (m_wr h a i x))) : Go p l e R s m args below meth c Q w0 D A sA b nL zc zs (pc, ls, .inl x :: .inl i :: .inr (.inr a) :: r, h) := by
  intro H locs cells slots ws tys lsR stR hW hS hc hs hL hSt
  dsimp only at hW hc hs hL hSt
  obtain ⟨v0, r0, rfl, hv0, h0⟩ := RS.cons hSt
  obtain ⟨v, r1, rfl, hv, h1⟩ := RS.cons h0
  obtain ⟨v2, r2, rfl, hv2, h2⟩ := RS.cons h1
  obtain ⟨ni, rfl, rfl⟩ := hv.int
  obtain ⟨nx, rfl, rfl⟩ := hv0.int
  obtain ⟨i1, i2, i3⟩ := m_in_ok hok
  obtain ⟨kk, qa, ee, rfl, hk, hcr⟩ := hW.get (a := a) (by omega)
  have hv2 := hv2.place hk
  subst hv2
  obtain ⟨n0, n1, cA, t, g, rfl, ht, hg⟩ := hcr.ints i1
  obtain ⟨j1, j2, j3⟩ := m_idx i2 i3
  obtain ⟨hx, hb, -⟩ := C
  refine va_iast (D := D) (cl := vwCl) hx hb hW.1 hW.2.1 hW.2.2.1 hS kk t hk ht j1 hdg (fun H1 locs1 hP1 hD1 hS1 => ?_)
  have hX := va_X2.set (e1 := .inl (cA, (m_ln h ↑kk).toNat, .inl (upd g ni.toNatClampNeg nx))) hk
  refine k H1 locs1 cells slots _ tys lsR _ (hW.put hk hP1 hD1 rfl rfl ?_ ?_) hS1 hc hs (hL.mono hX) (h2.mono hX)
  · intro k9 h9
    funext j
    show (if (k9 : Int) = (kk : Int) ∧ j = ni.toInt then nx.toInt else h.2.2 k9 j) = h.2.2 k9 j
    rw [if_neg (fun z => h9 (by omega))]
  · refine Or.inl ⟨i1, n0, n1, cA, t, _, rfl, ht, fun j hj => ?_⟩
    show (upd g ni.toNatClampNeg nx j).toInt = (if (kk : Int) = (kk : Int) ∧ (j : Int) = ni.toInt then nx.toInt else h.2.2 kk j)
    by_cases hjn : j = ni.toNatClampNeg
    · subst hjn
      rw [if_pos ⟨rfl, j2⟩, pk_us]
    · rw [if_neg (fun z => hjn (by omega)), pk_un hjn, hg j hj]
end GoH
